/-! the tables of the abstract machine: printed by wip/tools/gen_tab.py out of what TURN printed of the program -/
abbrev aI : Type := Jvm.ClassFile.Instr
/-- the types of a class's fields: 0 a number, 1 a boolean, 2 a reference -/
def aFT : List (List Nat) := [[2], [2], [0, 0, 2, 2, 2, 2, 2, 2], [0, 0, 2, 2, 2], [2], [2, 2, 2, 0, 0, 0], [2, 2, 2], [0, 0, 2, 2, 2, 2], [2, 2, 0, 0, 2, 2, 2, 0, 0, 1], [2, 2, 2, 2, 2, 2, 2, 0, 0], [0, 0, 0, 0, 0, 0, 0, 0, 0, 0, 0, 0, 2, 2, 2, 2], [2, 2, 2, 2, 2, 2, 2, 2, 1], [0, 0, 0, 0, 0, 2, 2, 2, 2, 2, 2, 2, 2, 2, 2, 2, 2, 0, 0, 0, 0, 0, 2, 2, 0, 0, 0, 0, 0, 2, 2, 2, 2, 2, 2, 2, 2, 2, 0, 0, 2, 0, 0, 0, 0, 0, 2, 2, 2, 2, 2, 1, 2, 2, 0, 0, 0, 0, 2, 2, 0, 0, 0, 0, 0, 0, 0, 2, 0, 1, 2, 0, 2, 2, 2, 2, 2, 1, 2, 0]]
def aAT : List FieldType := [.int, .boolean, .object "TwoCamps$Law", .object "TwoCamps$Plan", .object "TwoCamps$Wood", .array .int]
def aTx0 : u_T := fun k => match k with
  | _ => ("TwoCamps$Course", "question", "LTwoCamps$Question;", true)
def aTy0 : Nat → FieldType := fun k => match k with
  | _ => .object "TwoCamps$Question"
def aTx1 : u_T := fun k => match k with
  | _ => ("TwoCamps$Cut", "ways", "[[I", true)
def aTy1 : Nat → FieldType := fun k => match k with
  | _ => .array (.array (.int))
def aTx2 : u_T := fun k => match k with
  | 0 => ("TwoCamps$Law", "lines", "I", false)
  | 1 => ("TwoCamps$Law", "size", "I", false)
  | 2 => ("TwoCamps$Law", "words", "[I", true)
  | 3 => ("TwoCamps$Law", "starts", "[I", true)
  | 4 => ("TwoCamps$Law", "whens", "[I", true)
  | 5 => ("TwoCamps$Law", "ends", "[I", true)
  | 6 => ("TwoCamps$Law", "steps", "[I", true)
  | _ => ("TwoCamps$Law", "stack", "[I", true)
def aTy2 : Nat → FieldType := fun k => match k with
  | 0 => .int
  | 1 => .int
  | 2 => .array (.int)
  | 3 => .array (.int)
  | 4 => .array (.int)
  | 5 => .array (.int)
  | 6 => .array (.int)
  | _ => .array (.int)
def aTx3 : u_T := fun k => match k with
  | 0 => ("TwoCamps$Plan", "days", "I", false)
  | 1 => ("TwoCamps$Plan", "stirred", "I", false)
  | 2 => ("TwoCamps$Plan", "kinds", "[I", true)
  | 3 => ("TwoCamps$Plan", "prizes", "[I", true)
  | _ => ("TwoCamps$Plan", "wrongs", "[I", true)
def aTy3 : Nat → FieldType := fun k => match k with
  | 0 => .int
  | 1 => .int
  | 2 => .array (.int)
  | 3 => .array (.int)
  | _ => .array (.int)
def aTx4 : u_T := fun k => match k with
  | _ => ("TwoCamps$Question", "facts", "[I", true)
def aTy4 : Nat → FieldType := fun k => match k with
  | _ => .array (.int)
def aTx5 : u_T := fun k => match k with
  | 0 => ("TwoCamps$Reader", "tape", "LTwoCamps$Tape;", true)
  | 1 => ("TwoCamps$Reader", "law", "LTwoCamps$Law;", true)
  | 2 => ("TwoCamps$Reader", "plan", "LTwoCamps$Plan;", true)
  | 3 => ("TwoCamps$Reader", "at", "I", false)
  | 4 => ("TwoCamps$Reader", "fault", "I", false)
  | _ => ("TwoCamps$Reader", "faultPlace", "I", false)
def aTy5 : Nat → FieldType := fun k => match k with
  | 0 => .object "TwoCamps$Tape"
  | 1 => .object "TwoCamps$Law"
  | 2 => .object "TwoCamps$Plan"
  | 3 => .int
  | 4 => .int
  | _ => .int
def aTx6 : u_T := fun k => match k with
  | 0 => ("TwoCamps$Slips", "question", "LTwoCamps$Question;", true)
  | 1 => ("TwoCamps$Slips", "friends", "[I", true)
  | _ => ("TwoCamps$Slips", "worths", "[I", true)
def aTy6 : Nat → FieldType := fun k => match k with
  | 0 => .object "TwoCamps$Question"
  | 1 => .array (.int)
  | _ => .array (.int)
def aTx7 : u_T := fun k => match k with
  | 0 => ("TwoCamps$Tape", "length", "I", false)
  | 1 => ("TwoCamps$Tape", "count", "I", false)
  | 2 => ("TwoCamps$Tape", "bytes", "[I", true)
  | 3 => ("TwoCamps$Tape", "tokens", "[I", true)
  | 4 => ("TwoCamps$Tape", "places", "[I", true)
  | _ => ("TwoCamps$Tape", "values", "[I", true)
def aTy7 : Nat → FieldType := fun k => match k with
  | 0 => .int
  | 1 => .int
  | 2 => .array (.int)
  | 3 => .array (.int)
  | 4 => .array (.int)
  | _ => .array (.int)
def aTx8 : u_T := fun k => match k with
  | 0 => ("TwoCamps$Thought", "course", "LTwoCamps$Course;", true)
  | 1 => ("TwoCamps$Thought", "woods", "[LTwoCamps$Wood;", true)
  | 2 => ("TwoCamps$Thought", "firstFight", "I", false)
  | 3 => ("TwoCamps$Thought", "offBy", "I", false)
  | 4 => ("TwoCamps$Thought", "order", "[I", true)
  | 5 => ("TwoCamps$Thought", "bestOrder", "[I", true)
  | 6 => ("TwoCamps$Thought", "crosses", "[I", true)
  | 7 => ("TwoCamps$Thought", "arrived", "I", false)
  | 8 => ("TwoCamps$Thought", "farthest", "I", false)
  | _ => ("TwoCamps$Thought", "isSecond", "Z", false)
def aTy8 : Nat → FieldType := fun k => match k with
  | 0 => .object "TwoCamps$Course"
  | 1 => .array (.object "TwoCamps$Wood")
  | 2 => .int
  | 3 => .int
  | 4 => .array (.int)
  | 5 => .array (.int)
  | 6 => .array (.int)
  | 7 => .int
  | 8 => .int
  | _ => .boolean
def aTx9 : u_T := fun k => match k with
  | 0 => ("TwoCamps$Told", "wood", "LTwoCamps$Wood;", true)
  | 1 => ("TwoCamps$Told", "laws", "[LTwoCamps$Law;", true)
  | 2 => ("TwoCamps$Told", "plans", "[LTwoCamps$Plan;", true)
  | 3 => ("TwoCamps$Told", "kept", "[I", true)
  | 4 => ("TwoCamps$Told", "row", "[I", true)
  | 5 => ("TwoCamps$Told", "crosses", "[I", true)
  | 6 => ("TwoCamps$Told", "numbers", "[I", true)
  | 7 => ("TwoCamps$Told", "inForce", "I", false)
  | _ => ("TwoCamps$Told", "inRow", "I", false)
def aTy9 : Nat → FieldType := fun k => match k with
  | 0 => .object "TwoCamps$Wood"
  | 1 => .array (.object "TwoCamps$Law")
  | 2 => .array (.object "TwoCamps$Plan")
  | 3 => .array (.int)
  | 4 => .array (.int)
  | 5 => .array (.int)
  | 6 => .array (.int)
  | 7 => .int
  | _ => .int
def aTx10 : u_T := fun k => match k with
  | 0 => ("TwoCamps$Wood", "boys", "I", false)
  | 1 => ("TwoCamps$Wood", "second", "I", false)
  | 2 => ("TwoCamps$Wood", "there", "I", false)
  | 3 => ("TwoCamps$Wood", "loyal", "I", false)
  | 4 => ("TwoCamps$Wood", "days", "I", false)
  | 5 => ("TwoCamps$Wood", "seed", "I", false)
  | 6 => ("TwoCamps$Wood", "kind", "I", false)
  | 7 => ("TwoCamps$Wood", "prize", "I", false)
  | 8 => ("TwoCamps$Wood", "ahead", "I", false)
  | 9 => ("TwoCamps$Wood", "winner", "I", false)
  | 10 => ("TwoCamps$Wood", "wronged", "I", false)
  | 11 => ("TwoCamps$Wood", "fighting", "I", false)
  | 12 => ("TwoCamps$Wood", "strengths", "[I", true)
  | 13 => ("TwoCamps$Wood", "known", "[I", true)
  | 14 => ("TwoCamps$Wood", "likes", "[I", true)
  | _ => ("TwoCamps$Wood", "tallies", "[I", true)
def aTy10 : Nat → FieldType := fun k => match k with
  | 0 => .int
  | 1 => .int
  | 2 => .int
  | 3 => .int
  | 4 => .int
  | 5 => .int
  | 6 => .int
  | 7 => .int
  | 8 => .int
  | 9 => .int
  | 10 => .int
  | 11 => .int
  | 12 => .array (.int)
  | 13 => .array (.int)
  | 14 => .array (.int)
  | _ => .array (.int)
def aTx11 : u_T := fun k => match k with
  | 0 => ("TwoCamps", "tape", "LTwoCamps$Tape;", true)
  | 1 => ("TwoCamps", "reader", "LTwoCamps$Reader;", true)
  | 2 => ("TwoCamps", "now", "LTwoCamps$Told;", true)
  | 3 => ("TwoCamps", "taken", "LTwoCamps$Told;", true)
  | 4 => ("TwoCamps", "course", "LTwoCamps$Course;", true)
  | 5 => ("TwoCamps", "slips", "LTwoCamps$Slips;", true)
  | 6 => ("TwoCamps", "thought", "LTwoCamps$Thought;", true)
  | 7 => ("TwoCamps", "cutting", "LTwoCamps$Cut;", true)
  | _ => ("TwoCamps", "isTaken", "Z", false)
def aTy11 : Nat → FieldType := fun k => match k with
  | 0 => .object "TwoCamps$Tape"
  | 1 => .object "TwoCamps$Reader"
  | 2 => .object "TwoCamps$Told"
  | 3 => .object "TwoCamps$Told"
  | 4 => .object "TwoCamps$Course"
  | 5 => .object "TwoCamps$Slips"
  | 6 => .object "TwoCamps$Thought"
  | 7 => .object "TwoCamps$Cut"
  | _ => .boolean
def aTx12 : u_T := fun k => match k with
  | 0 => ("TwoCampsModel", "told", "I", false)
  | 1 => ("TwoCampsModel", "state", "I", false)
  | 2 => ("TwoCampsModel", "boys", "I", false)
  | 3 => ("TwoCampsModel", "days", "I", false)
  | 4 => ("TwoCampsModel", "force", "I", false)
  | 5 => ("TwoCampsModel", "lotOf", "[I", true)
  | 6 => ("TwoCampsModel", "strengthOf", "[I", true)
  | 7 => ("TwoCampsModel", "isThere", "[I", true)
  | 8 => ("TwoCampsModel", "isLoyal", "[I", true)
  | 9 => ("TwoCampsModel", "numberOf", "[I", true)
  | 10 => ("TwoCampsModel", "likeOf", "[I", true)
  | 11 => ("TwoCampsModel", "knewOf", "[I", true)
  | 12 => ("TwoCampsModel", "namedOn", "[I", true)
  | 13 => ("TwoCampsModel", "fought", "[I", true)
  | 14 => ("TwoCampsModel", "heat", "[I", true)
  | 15 => ("TwoCampsModel", "wonDays", "[I", true)
  | 16 => ("TwoCampsModel", "wrongedDays", "[I", true)
  | 17 => ("TwoCampsModel", "dayKind", "I", false)
  | 18 => ("TwoCampsModel", "dayPrize", "I", false)
  | 19 => ("TwoCampsModel", "dayNumber", "I", false)
  | 20 => ("TwoCampsModel", "dayWon", "I", false)
  | 21 => ("TwoCampsModel", "dayWronged", "I", false)
  | 22 => ("TwoCampsModel", "keptOf", "[I", true)
  | 23 => ("TwoCampsModel", "tape", "[I", true)
  | 24 => ("TwoCampsModel", "taped", "I", false)
  | 25 => ("TwoCampsModel", "spot", "I", false)
  | 26 => ("TwoCampsModel", "from", "I", false)
  | 27 => ("TwoCampsModel", "token", "I", false)
  | 28 => ("TwoCampsModel", "value", "I", false)
  | 29 => ("TwoCampsModel", "words", "[I", true)
  | 30 => ("TwoCampsModel", "lineMany", "[I", true)
  | 31 => ("TwoCampsModel", "lineSort", "[I", true)
  | 32 => ("TwoCampsModel", "lineFrom", "[I", true)
  | 33 => ("TwoCampsModel", "lineSum", "[I", true)
  | 34 => ("TwoCampsModel", "lineTo", "[I", true)
  | 35 => ("TwoCampsModel", "codeMany", "[I", true)
  | 36 => ("TwoCampsModel", "op", "[I", true)
  | 37 => ("TwoCampsModel", "arg", "[I", true)
  | 38 => ("TwoCampsModel", "many", "I", false)
  | 39 => ("TwoCampsModel", "open", "I", false)
  | 40 => ("TwoCampsModel", "pending", "[I", true)
  | 41 => ("TwoCampsModel", "pendings", "I", false)
  | 42 => ("TwoCampsModel", "readFault", "I", false)
  | 43 => ("TwoCampsModel", "readPlace", "I", false)
  | 44 => ("TwoCampsModel", "faultKind", "I", false)
  | 45 => ("TwoCampsModel", "faultPlace", "I", false)
  | 46 => ("TwoCampsModel", "stepMany", "[I", true)
  | 47 => ("TwoCampsModel", "stepWhat", "[I", true)
  | 48 => ("TwoCampsModel", "stepNumber", "[I", true)
  | 49 => ("TwoCampsModel", "asked", "[I", true)
  | 50 => ("TwoCampsModel", "stack", "[I", true)
  | 51 => ("TwoCampsModel", "isTold", "Z", false)
  | 52 => ("TwoCampsModel", "adds", "[I", true)
  | 53 => ("TwoCampsModel", "goes", "[Z", true)
  | 54 => ("TwoCampsModel", "fighting", "I", false)
  | 55 => ("TwoCampsModel", "heatCame", "I", false)
  | 56 => ("TwoCampsModel", "namesCame", "I", false)
  | 57 => ("TwoCampsModel", "went", "I", false)
  | 58 => ("TwoCampsModel", "worthOf", "[I", true)
  | 59 => ("TwoCampsModel", "friends", "[I", true)
  | 60 => ("TwoCampsModel", "ledDays", "I", false)
  | 61 => ("TwoCampsModel", "ledFights", "I", false)
  | 62 => ("TwoCampsModel", "ledHeat", "I", false)
  | 63 => ("TwoCampsModel", "ledGone", "I", false)
  | 64 => ("TwoCampsModel", "ledFirst", "I", false)
  | 65 => ("TwoCampsModel", "ledNames", "I", false)
  | 66 => ("TwoCampsModel", "ledOff", "I", false)
  | 67 => ("TwoCampsModel", "aside", "[I", true)
  | 68 => ("TwoCampsModel", "asideAt", "I", false)
  | 69 => ("TwoCampsModel", "isPutting", "Z", false)
  | 70 => ("TwoCampsModel", "rowOf", "[I", true)
  | 71 => ("TwoCampsModel", "rowMany", "I", false)
  | 72 => ("TwoCampsModel", "order", "[I", true)
  | 73 => ("TwoCampsModel", "bestOrder", "[I", true)
  | 74 => ("TwoCampsModel", "isSeen", "[Z", true)
  | 75 => ("TwoCampsModel", "seenCross", "[I", true)
  | 76 => ("TwoCampsModel", "waysTo", "[I", true)
  | 77 => ("TwoCampsModel", "hasImage", "Z", false)
  | 78 => ("TwoCampsModel", "images", "[I", true)
  | _ => ("TwoCampsModel", "imageAt", "I", false)
def aTy12 : Nat → FieldType := fun k => match k with
  | 0 => .int
  | 1 => .int
  | 2 => .int
  | 3 => .int
  | 4 => .int
  | 5 => .array (.int)
  | 6 => .array (.int)
  | 7 => .array (.int)
  | 8 => .array (.int)
  | 9 => .array (.int)
  | 10 => .array (.int)
  | 11 => .array (.int)
  | 12 => .array (.int)
  | 13 => .array (.int)
  | 14 => .array (.int)
  | 15 => .array (.int)
  | 16 => .array (.int)
  | 17 => .int
  | 18 => .int
  | 19 => .int
  | 20 => .int
  | 21 => .int
  | 22 => .array (.int)
  | 23 => .array (.int)
  | 24 => .int
  | 25 => .int
  | 26 => .int
  | 27 => .int
  | 28 => .int
  | 29 => .array (.int)
  | 30 => .array (.int)
  | 31 => .array (.int)
  | 32 => .array (.int)
  | 33 => .array (.int)
  | 34 => .array (.int)
  | 35 => .array (.int)
  | 36 => .array (.int)
  | 37 => .array (.int)
  | 38 => .int
  | 39 => .int
  | 40 => .array (.int)
  | 41 => .int
  | 42 => .int
  | 43 => .int
  | 44 => .int
  | 45 => .int
  | 46 => .array (.int)
  | 47 => .array (.int)
  | 48 => .array (.int)
  | 49 => .array (.int)
  | 50 => .array (.int)
  | 51 => .boolean
  | 52 => .array (.int)
  | 53 => .array (.boolean)
  | 54 => .int
  | 55 => .int
  | 56 => .int
  | 57 => .int
  | 58 => .array (.int)
  | 59 => .array (.int)
  | 60 => .int
  | 61 => .int
  | 62 => .int
  | 63 => .int
  | 64 => .int
  | 65 => .int
  | 66 => .int
  | 67 => .array (.int)
  | 68 => .int
  | 69 => .boolean
  | 70 => .array (.int)
  | 71 => .int
  | 72 => .array (.int)
  | 73 => .array (.int)
  | 74 => .array (.boolean)
  | 75 => .array (.int)
  | 76 => .array (.int)
  | 77 => .boolean
  | 78 => .array (.int)
  | _ => .int
abbrev vwCl : List vw_C := [("TwoCamps$Course", aTx0, 1), ("TwoCamps$Cut", aTx1, 1), ("TwoCamps$Law", aTx2, 8), ("TwoCamps$Plan", aTx3, 5), ("TwoCamps$Question", aTx4, 1), ("TwoCamps$Reader", aTx5, 6), ("TwoCamps$Slips", aTx6, 3), ("TwoCamps$Tape", aTx7, 6), ("TwoCamps$Thought", aTx8, 10), ("TwoCamps$Told", aTx9, 9), ("TwoCamps$Wood", aTx10, 16), ("TwoCamps", aTx11, 9), ("TwoCampsModel", aTx12, 80)]
def aTys : List (Nat → FieldType) := [aTy0, aTy1, aTy2, aTy3, aTy4, aTy5, aTy6, aTy7, aTy8, aTy9, aTy10, aTy11, aTy12]
-- 0: TwoCamps.<init>()V
def aC_0 : List (List aI) := [[.aload 0, .invokespecial 179903, .aload 0, .new 18207, .dup, .invokespecial 184193, .putfield 54711002, .aload 0, .new 21405, .dup, .aload 0, .getfield 54711002, .invokespecial 216169, .putfield 54811006, .aload 0, .new 30509, .dup, .invokespecial 307215, .putfield 54911010, .aload 0, .new 30509, .dup, .invokespecial 307215, .putfield 55011014, .aload 0, .new 45000, .dup, .invokespecial 452137, .putfield 55111018, .aload 0, .new 47206, .dup, .invokespecial 474184, .putfield 55211022, .aload 0, .new 49108, .dup, .aload 0, .getfield 55111018, .invokespecial 493206, .putfield 55311026, .aload 0, .new 53501, .dup, .invokespecial 537146, .putfield 55411030, .aload 0, .bipush 0, .putfield 55511033, .return_]]
-- 1: TwoCamps.boy(II)I
def aC_1 : List (List aI) := [[.aload 0, .getfield 54911010, .getfield 41009002, .astore 3, .iload 1, .invokestatic 579032, .ifCond .eq 4],
  [.iload 2, .ifCond .lt 4],
  [.iload 2, .bipush 9, .if_icmp .gt 4],
  [.bipush 1, .goto 5],
  [.bipush 0],
  [.istore 4, .iload 4, .ifCond .eq 8],
  [.aload 3, .getfield 31810000, .bipush 24, .if_icmp .ge 8],
  [.aload 3, .getfield 33010016, .ifCond .le 9],
  [.bipush (-1), .ireturn],
  [.aload 3, .iload 1, .iload 2, .invokevirtual 582221, .ireturn]]
-- 2: TwoCamps.like(III)Z
def aC_2 : List (List aI) := [[.aload 0, .getfield 54911010, .getfield 41009002, .iload 1, .iload 2, .invokevirtual 590223, .ifCond .eq 2],
  [.iload 3, .invokestatic 598035, .ifCond .ne 3],
  [.bipush 0, .ireturn],
  [.aload 0, .getfield 54911010, .getfield 41009002, .getfield 36210058, .iload 1, .bipush 24, .imul, .iload 2, .iadd, .iload 3, .iastore, .bipush 1, .ireturn]]
-- 3: TwoCamps.knew(IIZ)Z
def aC_3 : List (List aI) := [[.aload 0, .getfield 54911010, .getfield 41009002, .iload 1, .iload 2, .invokevirtual 590223, .ifCond .ne 2],
  [.bipush 0, .ireturn],
  [.aload 0, .getfield 54911010, .getfield 41009002, .iload 1, .iload 2, .iload 3, .invokevirtual 605224, .bipush 1, .ireturn]]
-- 4: TwoCamps.state(I)I
def aC_4 : List (List aI) := [[.aload 0, .getfield 54911010, .getfield 41009002, .getfield 33510020, .istore 2, .aload 0, .getfield 54911010, .getfield 41009002, .iload 1, .putfield 33510020, .iload 2, .ireturn]]
-- 5: TwoCamps.feed(IIIII)I
def aC_5 : List (List aI) := [[.aload 0, .getfield 54711002, .getfield 19007000, .bipush 20, .iadd, .bipush 500, .if_icmp .le 2],
  [.bipush (-1), .ireturn],
  [.aload 0, .getfield 54711002, .iload 1, .invokevirtual 617194, .aload 0, .getfield 54711002, .iload 2, .invokevirtual 617194, .aload 0, .getfield 54711002, .iload 3, .invokevirtual 617194, .aload 0, .getfield 54711002, .iload 4, .invokevirtual 617194, .aload 0, .getfield 54711002, .iload 5, .invokevirtual 617194, .aload 0, .getfield 54711002, .getfield 19007000, .ireturn]]
-- 6: TwoCamps.end(I)Z
def aC_6 : List (List aI) := [[.iload 1, .ifCond .lt 2],
  [.iload 1, .aload 0, .getfield 54711002, .getfield 19007000, .if_icmp .le 3],
  [.bipush 0, .ireturn],
  [.aload 0, .getfield 54711002, .iload 1, .putfield 19007000, .bipush 1, .ireturn]]
-- 7: TwoCamps.text(II)I
def aC_7 : List (List aI) := [[.aload 0, .getfield 54811006, .invokevirtual 629170, .bipush (-1), .istore 3, .iload 1, .ifCond .ne 3],
  [.iload 2, .invokestatic 751033, .ifCond .eq 3],
  [.aload 0, .getfield 54811006, .aload 0, .getfield 54911010, .getfield 41309006, .iload 2, .aaload, .invokevirtual 754174, .istore 3, .goto 6],
  [.iload 1, .bipush 1, .if_icmp .ne 6],
  [.iload 2, .invokestatic 751033, .ifCond .eq 6],
  [.aload 0, .getfield 54811006, .aload 0, .getfield 54911010, .getfield 41509010, .iload 2, .aaload, .invokevirtual 813181, .istore 3],
  [.aload 0, .getfield 54711002, .bipush 0, .putfield 19007000, .iload 3, .ireturn]]
-- 8: TwoCamps.fault(I)I
def aC_8 : List (List aI) := [[.iload 1, .ifCond .ne 2],
  [.aload 0, .getfield 54811006, .getfield 28905016, .ireturn],
  [.iload 1, .bipush 1, .if_icmp .ne 4],
  [.aload 0, .getfield 54811006, .getfield 29105020, .goto 5],
  [.bipush (-1)],
  [.ireturn]]
-- 9: TwoCamps.force(I)I
def aC_9 : List (List aI) := [[.iload 1, .invokestatic 751033, .ifCond .ne 2],
  [.bipush (-1), .ireturn],
  [.aload 0, .getfield 54911010, .getfield 42709028, .istore 2, .aload 0, .getfield 54911010, .iload 1, .putfield 42709028, .iload 2, .ireturn]]
-- 10: TwoCamps.day(III)I
def aC_10 : List (List aI) := [[.iload 1, .invokestatic 851034, .ifCond .eq 8],
  [.iload 2, .ifCond .lt 8],
  [.iload 2, .bipush 9, .if_icmp .gt 8],
  [.iload 1, .bipush 1, .if_icmp .eq 5],
  [.iload 2, .ifCond .ne 8],
  [.iload 3, .bipush (-1), .if_icmp .eq 7],
  [.iload 3, .invokestatic 579032, .ifCond .eq 8],
  [.bipush 1, .goto 9],
  [.bipush 0],
  [.istore 4, .iload 4, .ifCond .eq 11],
  [.aload 0, .getfield 54911010, .getfield 41009002, .getfield 33010016, .bipush 60, .if_icmp .lt 12],
  [.bipush (-1), .ireturn],
  [.aload 0, .iload 1, .iload 2, .iload 3, .invokevirtual 854030, .ireturn]]
-- 11: TwoCamps.plan(I)I
def aC_11 : List (List aI) := [[.iload 1, .invokestatic 751033, .ifCond .ne 2],
  [.bipush (-1), .ireturn],
  [.aload 0, .getfield 54911010, .getfield 41509010, .iload 1, .aaload, .astore 2, .bipush 0, .istore 3, .bipush 0, .istore 4],
  [.iload 4, .aload 2, .getfield 26103000, .if_icmp .ge 6],
  [.aload 0, .getfield 54911010, .getfield 41009002, .getfield 33010016, .bipush 60, .if_icmp .ge 6],
  [.aload 0, .aload 2, .getfield 26603010, .iload 4, .iaload, .aload 2, .getfield 26903014, .iload 4, .iaload, .aload 2, .getfield 27203018, .iload 4, .iaload, .invokevirtual 854030, .pop, .iinc 3 1, .iinc 4 1, .goto 3],
  [.iload 3, .ireturn]]
-- 12: TwoCamps.of(II)I
def aC_12 : List (List aI) := [[.aload 0, .getfield 54911010, .getfield 41009002, .astore 3, .aload 3, .iload 1, .invokevirtual 1033222, .ifCond .ne 2],
  [.bipush (-100), .ireturn],
  [.iload 2, .bipush 100, .if_icmp .lt 7],
  [.iload 2, .bipush 100, .isub, .istore 4, .aload 3, .iload 1, .iload 4, .invokevirtual 590223, .ifCond .eq 5],
  [.aload 3, .getfield 36210058, .iload 1, .bipush 24, .imul, .iload 4, .iadd, .iaload, .goto 6],
  [.bipush (-100)],
  [.ireturn],
  [.aload 3, .iload 1, .invokevirtual 1034225, .istore 4, .iload 2, .tableswitch 22 0 11 #[8, 9, 10, 14, 14, 14, 14, 15, 14, 19, 20, 21]],
  [.iload 4, .ireturn],
  [.aload 3, .getfield 35810050, .iload 1, .iaload, .ireturn],
  [.aload 3, .getfield 32510008, .iload 1, .invokestatic 1035037, .ifCond .eq 12],
  [.bipush 1, .goto 13],
  [.bipush 0],
  [.ireturn],
  [.aload 0, .iload 1, .iload 2, .invokevirtual 1036031, .ireturn],
  [.aload 3, .getfield 32810012, .iload 1, .invokestatic 1035037, .ifCond .eq 17],
  [.bipush 1, .goto 18],
  [.bipush 0],
  [.ireturn],
  [.aload 3, .aload 3, .iload 4, .invokevirtual 1046226, .bipush 1, .iload 1, .ishl, .invokevirtual 1047231, .ireturn],
  [.aload 3, .aload 3, .bipush 1, .iload 4, .isub, .invokevirtual 1046226, .bipush 1, .iload 1, .ishl, .invokevirtual 1047231, .ireturn],
  [.aload 3, .bipush 1, .iload 1, .ishl, .aload 3, .iload 4, .invokevirtual 1046226, .invokevirtual 1047231, .ireturn],
  [.bipush (-100), .ireturn]]
-- 13: TwoCamps.lot(II)I
def aC_13 : List (List aI) := [[.iload 1, .invokestatic 579032, .ifCond .ne 2],
  [.bipush (-100), .ireturn],
  [.iload 2, .tableswitch 8 0 8 #[3, 4, 5, 6, 6, 6, 6, 7, 6]],
  [.aload 0, .getfield 54911010, .getfield 41009002, .iload 1, .invokevirtual 1052227, .ireturn],
  [.aload 0, .getfield 54911010, .getfield 41009002, .iload 1, .invokevirtual 1056228, .ireturn],
  [.aload 0, .getfield 54911010, .getfield 41009002, .iload 1, .invokevirtual 1057229, .ireturn],
  [.aload 0, .getfield 54911010, .getfield 41009002, .getfield 36610062, .iload 2, .bipush 2, .imul, .iload 1, .iadd, .iaload, .ireturn],
  [.aload 0, .getfield 55211022, .aload 0, .getfield 54911010, .getfield 41009002, .aload 0, .getfield 54911010, .invokevirtual 858217, .iload 1, .invokevirtual 1058188, .ireturn],
  [.bipush (-100), .ireturn]]
-- 14: TwoCamps.kept(II)I
def aC_14 : List (List aI) := [[.iload 1, .bipush 1, .if_icmp .lt 6],
  [.iload 1, .aload 0, .getfield 54911010, .getfield 41009002, .getfield 33010016, .if_icmp .gt 6],
  [.iload 1, .bipush 60, .if_icmp .gt 6],
  [.iload 2, .ifCond .lt 6],
  [.iload 2, .bipush 8, .if_icmp .ge 6],
  [.bipush 1, .goto 7],
  [.bipush 0],
  [.istore 3, .iload 3, .ifCond .eq 9],
  [.aload 0, .getfield 54911010, .getfield 41709014, .iload 1, .bipush 1, .isub, .bipush 8, .imul, .iload 2, .iadd, .iaload, .goto 10],
  [.bipush (-100)],
  [.ireturn]]
-- 15: TwoCamps.beans(III)I
def aC_15 : List (List aI) := [[.aload 0, .getfield 54911010, .getfield 41009002, .astore 4, .aload 4, .iload 1, .iload 2, .invokevirtual 590223, .ifCond .eq 4],
  [.aload 4, .getfield 32510008, .iload 1, .invokestatic 1035037, .ifCond .eq 4],
  [.aload 4, .getfield 32510008, .iload 2, .invokestatic 1035037, .ifCond .eq 4],
  [.iload 3, .invokestatic 1071036, .ifCond .ne 5],
  [.bipush (-1), .ireturn],
  [.aload 0, .getfield 55211022, .aload 4, .aload 0, .getfield 54911010, .invokevirtual 858217, .iload 1, .iload 2, .iload 3, .invokevirtual 1074191, .ireturn]]
-- 16: TwoCamps.seen(II)I
def aC_16 : List (List aI) := [[.iload 1, .invokestatic 1071036, .ifCond .eq 3],
  [.iload 2, .ifCond .lt 3],
  [.iload 2, .bipush 2, .if_icmp .le 4],
  [.bipush (-10000), .ireturn],
  [.iload 2, .bipush 1, .if_icmp .ne 6],
  [.bipush 0, .goto 7],
  [.aload 0, .getfield 55211022, .aload 0, .getfield 54911010, .getfield 41009002, .aload 0, .getfield 54911010, .invokevirtual 858217, .iload 1, .bipush 1, .invokevirtual 1083192],
  [.istore 3, .iload 2, .ifCond .ne 9],
  [.bipush 0, .goto 10],
  [.aload 0, .getfield 55211022, .aload 0, .getfield 54911010, .getfield 41009002, .aload 0, .getfield 54911010, .invokevirtual 858217, .iload 1, .bipush 0, .invokevirtual 1083192],
  [.istore 4, .iload 2, .bipush 1, .if_icmp .ne 12],
  [.iload 4, .goto 13],
  [.iload 3, .iload 4, .isub],
  [.ireturn]]
-- 17: TwoCamps.led(IIZI)I
def aC_17 : List (List aI) := [[.iload 1, .invokestatic 751033, .ifCond .eq 2],
  [.iload 2, .invokestatic 751033, .ifCond .ne 3],
  [.bipush (-100), .ireturn],
  [.aload 0, .getfield 54911010, .getfield 41009002, .astore 5, .aload 0, .getfield 55311026, .aload 0, .getfield 54911010, .aload 0, .getfield 54911010, .getfield 41509010, .iload 1, .aaload, .aload 0, .getfield 54911010, .getfield 41309006, .iload 2, .aaload, .iload 3, .invokevirtual 1093208, .astore 6, .iload 4, .tableswitch 11 0 6 #[4, 5, 6, 7, 8, 9, 10]],
  [.aload 6, .bipush 4, .invokevirtual 1114236, .aload 5, .bipush 4, .invokevirtual 1114236, .isub, .ireturn],
  [.aload 6, .bipush 5, .invokevirtual 1114236, .aload 5, .bipush 5, .invokevirtual 1114236, .isub, .ireturn],
  [.aload 6, .invokevirtual 1118230, .ireturn],
  [.aload 5, .getfield 32510008, .invokestatic 1119239, .aload 6, .getfield 32510008, .invokestatic 1119239, .isub, .ireturn],
  [.aload 0, .getfield 55311026, .getfield 50308008, .ireturn],
  [.aload 6, .invokevirtual 1120238, .aload 5, .invokevirtual 1120238, .isub, .ireturn],
  [.aload 6, .getfield 33010016, .aload 5, .getfield 33010016, .isub, .ireturn],
  [.bipush (-100), .ireturn]]
-- 18: TwoCamps.least(II)I
def aC_18 : List (List aI) := [[.iload 1, .invokestatic 751033, .ifCond .eq 3],
  [.iload 2, .ifCond .lt 3],
  [.iload 2, .bipush 9, .if_icmp .le 4],
  [.bipush (-1), .ireturn],
  [.aload 0, .getfield 55311026, .aload 0, .getfield 54911010, .aload 0, .getfield 54911010, .getfield 41309006, .iload 1, .aaload, .iload 2, .invokevirtual 1129209, .ireturn]]
-- 19: TwoCamps.back(I)I
def aC_19 : List (List aI) := [[.iload 1, .invokestatic 751033, .ifCond .eq 2],
  [.aload 0, .getfield 55311026, .aload 0, .getfield 54911010, .aload 0, .getfield 54911010, .getfield 41309006, .iload 1, .aaload, .invokevirtual 1137210, .goto 3],
  [.bipush (-1)],
  [.ireturn]]
-- 20: TwoCamps.row(I)I
def aC_20 : List (List aI) := [[.iload 1, .bipush (-1), .if_icmp .ne 2],
  [.aload 0, .getfield 54911010, .bipush 0, .putfield 43009032, .bipush 0, .ireturn],
  [.iload 1, .invokestatic 851034, .ifCond .eq 4],
  [.aload 0, .getfield 54911010, .getfield 43009032, .bipush 5, .if_icmp .lt 5],
  [.bipush (-2), .ireturn],
  [.aload 0, .getfield 54911010, .getfield 42009018, .aload 0, .getfield 54911010, .getfield 43009032, .iload 1, .iastore, .aload 0, .getfield 54911010, .dup, .getfield 43009032, .bipush 1, .iadd, .putfield 43009032, .aload 0, .getfield 54911010, .getfield 43009032, .ireturn]]
-- 21: TwoCamps.parts(III)I
def aC_21 : List (List aI) := [[.iload 1, .invokestatic 751033, .ifCond .eq 4],
  [.iload 2, .invokestatic 751033, .ifCond .eq 4],
  [.iload 3, .ifCond .lt 4],
  [.iload 3, .aload 0, .getfield 54911010, .getfield 43009032, .if_icmp .le 5],
  [.bipush (-1), .ireturn],
  [.aload 0, .getfield 55311026, .aload 0, .getfield 54911010, .invokevirtual 1149211, .aload 0, .getfield 55311026, .aload 0, .getfield 54911010, .aload 0, .getfield 54911010, .getfield 41309006, .iload 1, .aaload, .bipush 0, .bipush 0, .invokestatic 1153213, .aload 0, .getfield 55311026, .invokevirtual 1163212, .aload 0, .getfield 55311026, .aload 0, .getfield 54911010, .aload 0, .getfield 54911010, .getfield 41309006, .iload 2, .aaload, .bipush 0, .bipush 0, .invokestatic 1153213, .iload 3, .ifCond .ne 7],
  [.aload 0, .getfield 55311026, .getfield 51208032, .goto 8],
  [.aload 0, .getfield 55311026, .getfield 50808022, .iload 3, .bipush 1, .isub, .iaload],
  [.ireturn]]
-- 22: TwoCamps.told(II)Z
def aC_22 : List (List aI) := [[.iload 1, .bipush 1, .if_icmp .lt 4],
  [.iload 1, .bipush 24, .if_icmp .gt 4],
  [.iload 2, .invokestatic 598035, .ifCond .ne 5],
  [.iload 2, .bipush (-100), .if_icmp .eq 5],
  [.bipush 0, .ireturn],
  [.aload 0, .getfield 54911010, .getfield 42309022, .iload 1, .bipush 1, .isub, .iload 2, .iastore, .bipush 1, .ireturn]]
-- 23: TwoCamps.off(II)I
def aC_23 : List (List aI) := [[.iload 1, .invokestatic 751033, .ifCond .eq 2],
  [.iload 2, .invokestatic 751033, .ifCond .ne 3],
  [.bipush (-1), .ireturn],
  [.aload 0, .getfield 55311026, .aload 0, .getfield 54911010, .aload 0, .getfield 54911010, .getfield 41509010, .iload 1, .aaload, .aload 0, .getfield 54911010, .getfield 41309006, .iload 2, .aaload, .bipush 1, .invokevirtual 1093208, .pop, .aload 0, .getfield 55311026, .getfield 50508012, .ireturn]]
-- 24: TwoCamps.fitting(I)I
def aC_24 : List (List aI) := [[.iload 1, .invokestatic 751033, .ifCond .ne 2],
  [.bipush (-1), .ireturn],
  [.bipush (-1), .istore 2, .bipush 0, .istore 3, .bipush 0, .istore 4],
  [.iload 4, .bipush 4, .if_icmp .ge 8],
  [.aload 0, .getfield 55311026, .aload 0, .getfield 54911010, .aload 0, .getfield 54911010, .getfield 41509010, .iload 1, .aaload, .aload 0, .getfield 54911010, .getfield 41309006, .iload 4, .aaload, .bipush 1, .invokevirtual 1093208, .pop, .iload 2, .bipush (-1), .if_icmp .eq 6],
  [.aload 0, .getfield 55311026, .getfield 50508012, .iload 3, .if_icmp .ge 7],
  [.aload 0, .getfield 55311026, .getfield 50508012, .istore 3, .iload 4, .istore 2],
  [.iinc 4 1, .goto 3],
  [.iload 2, .ireturn]]
-- 25: TwoCamps.number(II)Z
def aC_25 : List (List aI) := [[.aload 0, .getfield 54911010, .getfield 41009002, .iload 1, .invokevirtual 1033222, .ifCond .eq 3],
  [.iload 2, .ifCond .lt 3],
  [.iload 2, .bipush 99, .if_icmp .le 4],
  [.bipush 0, .ireturn],
  [.aload 0, .getfield 54911010, .getfield 42509026, .iload 1, .iload 2, .iastore, .bipush 1, .ireturn]]
-- 26: TwoCamps.cut(I)I
def aC_26 : List (List aI) := [[.iload 1, .ifCond .lt 2],
  [.iload 1, .bipush 2, .if_icmp .le 3],
  [.bipush (-1), .ireturn],
  [.aload 0, .getfield 55411030, .aload 0, .getfield 54911010, .getfield 41009002, .invokevirtual 1187147, .istore 2, .iload 1, .bipush 1, .if_icmp .ne 5],
  [.iload 2, .ireturn],
  [.aload 0, .getfield 55411030, .aload 0, .getfield 54911010, .getfield 41009002, .aload 0, .getfield 54911010, .getfield 42509026, .iload 2, .invokevirtual 1192148, .istore 3, .iload 1, .ifCond .eq 7],
  [.iload 2, .ifCond .gt 8],
  [.iload 3, .goto 9],
  [.ldc2_w 22320560329188557456360, .iload 3, .i2l, .lmul, .iload 2, .i2l, .ldiv, .l2i],
  [.ireturn]]
-- 27: TwoCamps.woods(II)I
def aC_27 : List (List aI) := [[.iload 1, .ifCond .lt 4],
  [.iload 1, .bipush 9, .if_icmp .gt 4],
  [.iload 2, .bipush 2, .if_icmp .lt 4],
  [.iload 2, .ldc_w 5218385364640, .if_icmp .le 5],
  [.bipush (-1), .ireturn],
  [.bipush 1, .istore 3],
  [.iload 3, .bipush 60, .if_icmp .gt 10],
  [.iload 3, .iload 1, .invokestatic 1216040, .iload 2, .i2l, .lmul, .lconst 1, .iload 3, .lshl, .lcmp, .ifCond .ge 9],
  [.iload 3, .ireturn],
  [.iinc 3 1, .goto 6],
  [.bipush (-1), .ireturn]]
-- 28: TwoCamps.image(Z)Z
def aC_28 : List (List aI) := [[.iload 1, .ifCond .eq 2],
  [.aload 0, .getfield 55011014, .aload 0, .getfield 54911010, .invokevirtual 1223216, .aload 0, .bipush 1, .putfield 55511033, .goto 4],
  [.aload 0, .getfield 55511033, .ifCond .eq 4],
  [.aload 0, .getfield 54911010, .aload 0, .getfield 55011014, .invokevirtual 1223216],
  [.aload 0, .getfield 55511033, .ireturn]]
-- 29: TwoCamps.look(I)I
def aC_29 : List (List aI) := [[.aload 0, .getfield 54911010, .getfield 41009002, .astore 2, .iload 1, .tableswitch 9 0 7 #[1, 2, 3, 4, 5, 6, 7, 8]],
  [.aload 2, .getfield 31810000, .ireturn],
  [.aload 2, .getfield 32510008, .invokestatic 1119239, .ireturn],
  [.aload 2, .getfield 33010016, .ireturn],
  [.aload 2, .invokevirtual 1118230, .ireturn],
  [.aload 0, .getfield 54911010, .getfield 42709028, .ireturn],
  [.aload 2, .bipush 4, .invokevirtual 1114236, .ireturn],
  [.aload 2, .getfield 32810012, .invokestatic 1119239, .ireturn],
  [.aload 0, .getfield 54911010, .getfield 43009032, .ireturn],
  [.bipush (-100), .ireturn]]
-- 30: TwoCamps.goThrough(III)I
def aC_30 : List (List aI) := [[.aload 0, .getfield 54911010, .invokevirtual 858217, .astore 4, .aload 0, .getfield 55111018, .aload 0, .getfield 54911010, .getfield 41009002, .aload 4, .iload 1, .iload 2, .iload 3, .invokevirtual 862138, .istore 5, .aload 0, .getfield 55211022, .aload 0, .getfield 54911010, .getfield 41009002, .aload 4, .invokevirtual 991190, .aload 0, .getfield 54911010, .invokevirtual 1012218, .iload 5, .ireturn]]
-- 31: TwoCamps.ofFriends(II)I
def aC_31 : List (List aI) := [[.aload 0, .getfield 54911010, .getfield 41009002, .astore 3, .aload 0, .getfield 54911010, .invokevirtual 858217, .astore 4, .iload 2, .bipush 8, .if_icmp .ne 2],
  [.aload 0, .getfield 55211022, .aload 3, .aload 4, .iload 1, .invokevirtual 1040189, .ireturn],
  [.aload 0, .getfield 55211022, .aload 3, .aload 4, .iload 1, .invokevirtual 1044185, .iload 2, .bipush 6, .if_icmp .ne 4],
  [.aload 0, .getfield 55211022, .aload 3, .iload 1, .invokevirtual 1045187, .ireturn],
  [.iload 2, .bipush 3, .isub, .istore 5, .iload 5, .ifCond .lt 7],
  [.iload 5, .bipush 3, .if_icmp .ge 7],
  [.aload 0, .getfield 55211022, .getfield 48206006, .iload 5, .iaload, .goto 8],
  [.bipush (-1)],
  [.ireturn]]
-- 32: TwoCamps.isLot(I)Z
def aC_32 : List (List aI) := [[.iload 0, .ifCond .eq 2],
  [.iload 0, .bipush 1, .if_icmp .ne 3],
  [.bipush 1, .goto 4],
  [.bipush 0],
  [.ireturn]]
-- 33: TwoCamps.isText(I)Z
def aC_33 : List (List aI) := [[.iload 0, .ifCond .lt 3],
  [.iload 0, .bipush 4, .if_icmp .ge 3],
  [.bipush 1, .goto 4],
  [.bipush 0],
  [.ireturn]]
-- 34: TwoCamps.isKind(I)Z
def aC_34 : List (List aI) := [[.iload 0, .ifCond .lt 3],
  [.iload 0, .bipush 3, .if_icmp .gt 3],
  [.bipush 1, .goto 4],
  [.bipush 0],
  [.ireturn]]
-- 35: TwoCamps.isLike(I)Z
def aC_35 : List (List aI) := [[.iload 0, .bipush (-50), .if_icmp .lt 3],
  [.iload 0, .bipush 50, .if_icmp .gt 3],
  [.bipush 1, .goto 4],
  [.bipush 0],
  [.ireturn]]
-- 36: TwoCamps.isBeans(I)Z
def aC_36 : List (List aI) := [[.iload 0, .ifCond .lt 3],
  [.iload 0, .bipush 999, .if_icmp .gt 3],
  [.bipush 1, .goto 4],
  [.bipush 0],
  [.ireturn]]
-- 37: TwoCamps.has(II)Z
def aC_37 : List (List aI) := [[.iload 0, .iload 1, .iushr, .bipush 1, .iand, .bipush 1, .if_icmp .ne 2],
  [.bipush 1, .goto 3],
  [.bipush 0],
  [.ireturn]]
-- 38: TwoCamps.mean(II)I
def aC_38 : List (List aI) := [[.iload 1, .ifCond .le 2],
  [.iload 0, .iload 1, .invokestatic 907905, .goto 3],
  [.bipush 0],
  [.ireturn]]
-- 39: TwoCamps.held(JII)I
def aC_39 : List (List aI) := [[.iload 2, .i2l, .iload 3, .i2l, .lload 0, .invokestatic 954908, .invokestatic 957906, .l2i, .ireturn]]
-- 40: TwoCamps.waysOfAtMost(II)J
def aC_40 : List (List aI) := [[.lconst 0, .lstore 2, .lconst 1, .lstore 4, .bipush 0, .istore 6],
  [.iload 6, .iload 1, .if_icmp .gt 3],
  [.lload 2, .lload 4, .ladd, .lstore 2, .lload 4, .iload 0, .iload 6, .isub, .i2l, .lmul, .iload 6, .bipush 1, .iadd, .i2l, .ldiv, .lstore 4, .iinc 6 1, .goto 1],
  [.lload 2, .lreturn]]
-- 41: TwoCampsModel.<init>()V
def aC_41 : List (List aI) := [[.aload 0, .invokespecial 1240903, .aload 0, .bipush 24, .newarray .int, .putfield 124712022, .aload 0, .bipush 24, .newarray .int, .putfield 124812026, .aload 0, .bipush 24, .newarray .int, .putfield 124912030, .aload 0, .bipush 24, .newarray .int, .putfield 125012034, .aload 0, .bipush 24, .newarray .int, .putfield 125112038, .aload 0, .bipush 576, .newarray .int, .putfield 125212042, .aload 0, .bipush 576, .newarray .int, .putfield 125312046, .aload 0, .bipush 2, .newarray .int, .putfield 125412050, .aload 0, .bipush 2, .newarray .int, .putfield 125512054, .aload 0, .bipush 2, .newarray .int, .putfield 125612058, .aload 0, .bipush 2, .newarray .int, .putfield 125712062, .aload 0, .bipush 2, .newarray .int, .putfield 125812066, .aload 0, .bipush (-1), .putfield 126212080, .aload 0, .bipush (-1), .putfield 126312084, .aload 0, .bipush 480, .newarray .int, .putfield 126412090, .aload 0, .bipush 500, .newarray .int, .putfield 126512094, .aload 0, .bipush 156, .newarray .int, .dup, .bipush 0, .bipush 32, .iastore, .dup, .bipush 1, .bipush 97, .iastore, .dup, .bipush 2, .bipush 100, .iastore, .dup, .bipush 3, .bipush 100, .iastore, .dup, .bipush 4, .bipush 32, .iastore, .dup, .bipush 5, .bipush 102, .iastore, .dup, .bipush 6, .bipush 105, .iastore, .dup, .bipush 7, .bipush 103, .iastore, .dup, .bipush 8, .bipush 104, .iastore, .dup, .bipush 9, .bipush 116, .iastore, .dup, .bipush 10, .bipush 32, .iastore, .dup, .bipush 11, .bipush 104, .iastore, .dup, .bipush 12, .bipush 111, .iastore, .dup, .bipush 13, .bipush 109, .iastore, .dup, .bipush 14, .bipush 101, .iastore, .dup, .bipush 15, .bipush 32, .iastore, .dup, .bipush 16, .bipush 110, .iastore, .dup, .bipush 17, .bipush 97, .iastore, .dup, .bipush 18, .bipush 109, .iastore, .dup, .bipush 19, .bipush 101, .iastore, .dup, .bipush 20, .bipush 32, .iastore, .dup, .bipush 21, .bipush 115, .iastore, .dup, .bipush 22, .bipush 101, .iastore, .dup, .bipush 23, .bipush 101, .iastore, .dup, .bipush 24, .bipush 32, .iastore, .dup, .bipush 25, .bipush 115, .iastore, .dup, .bipush 26, .bipush 108, .iastore, .dup, .bipush 27, .bipush 105, .iastore, .dup, .bipush 28, .bipush 112, .iastore, .dup, .bipush 29, .bipush 32, .iastore, .dup, .bipush 30, .bipush 97, .iastore, .dup, .bipush 31, .bipush 112, .iastore, .dup, .bipush 32, .bipush 97, .iastore, .dup, .bipush 33, .bipush 114, .iastore, .dup, .bipush 34, .bipush 116, .iastore, .dup, .bipush 35, .bipush 32, .iastore, .dup, .bipush 36, .bipush 97, .iastore, .dup, .bipush 37, .bipush 103, .iastore, .dup, .bipush 38, .bipush 97, .iastore, .dup, .bipush 39, .bipush 105, .iastore, .dup, .bipush 40, .bipush 110, .iastore, .dup, .bipush 41, .bipush 115, .iastore, .dup, .bipush 42, .bipush 116, .iastore, .dup, .bipush 43, .bipush 32, .iastore, .dup, .bipush 44, .bipush 98, .iastore, .dup, .bipush 45, .bipush 101, .iastore, .dup, .bipush 46, .bipush 115, .iastore, .dup, .bipush 47, .bipush 105, .iastore, .dup, .bipush 48, .bipush 100, .iastore, .dup, .bipush 49, .bipush 101, .iastore, .dup, .bipush 50, .bipush 32, .iastore, .dup, .bipush 51, .bipush 116, .iastore, .dup, .bipush 52, .bipush 111, .iastore, .dup, .bipush 53, .bipush 103, .iastore, .dup, .bipush 54, .bipush 101, .iastore, .dup, .bipush 55, .bipush 116, .iastore, .dup, .bipush 56, .bipush 104, .iastore, .dup, .bipush 57, .bipush 101, .iastore, .dup, .bipush 58, .bipush 114, .iastore, .dup, .bipush 59, .bipush 32, .iastore, .dup, .bipush 60, .bipush 115, .iastore, .dup, .bipush 61, .bipush 116, .iastore, .dup, .bipush 62, .bipush 105, .iastore, .dup, .bipush 63, .bipush 114, .iastore, .dup, .bipush 64, .bipush 32, .iastore, .dup, .bipush 65, .bipush 119, .iastore, .dup, .bipush 66, .bipush 104, .iastore, .dup, .bipush 67, .bipush 101, .iastore, .dup, .bipush 68, .bipush 110, .iastore, .dup, .bipush 69, .bipush 32, .iastore, .dup, .bipush 70, .bipush 111, .iastore, .dup, .bipush 71, .bipush 114, .iastore, .dup, .bipush 72, .bipush 32, .iastore, .dup, .bipush 73, .bipush 97, .iastore, .dup, .bipush 74, .bipush 110, .iastore, .dup, .bipush 75, .bipush 100, .iastore, .dup, .bipush 76, .bipush 32, .iastore, .dup, .bipush 77, .bipush 110, .iastore, .dup, .bipush 78, .bipush 111, .iastore, .dup, .bipush 79, .bipush 116, .iastore, .dup, .bipush 80, .bipush 32, .iastore, .dup, .bipush 81, .bipush 107, .iastore, .dup, .bipush 82, .bipush 105, .iastore, .dup, .bipush 83, .bipush 110, .iastore, .dup, .bipush 84, .bipush 100, .iastore, .dup, .bipush 85, .bipush 32, .iastore, .dup, .bipush 86, .bipush 112, .iastore, .dup, .bipush 87, .bipush 114, .iastore, .dup, .bipush 88, .bipush 105, .iastore, .dup, .bipush 89, .bipush 122, .iastore, .dup, .bipush 90, .bipush 101, .iastore, .dup, .bipush 91, .bipush 32, .iastore, .dup, .bipush 92, .bipush 100, .iastore, .dup, .bipush 93, .bipush 97, .iastore, .dup, .bipush 94, .bipush 121, .iastore, .dup, .bipush 95, .bipush 32, .iastore, .dup, .bipush 96, .bipush 115, .iastore, .dup, .bipush 97, .bipush 97, .iastore, .dup, .bipush 98, .bipush 109, .iastore, .dup, .bipush 99, .bipush 101, .iastore, .dup, .bipush 100, .bipush 32, .iastore, .dup, .bipush 101, .bipush 107, .iastore, .dup, .bipush 102, .bipush 110, .iastore, .dup, .bipush 103, .bipush 101, .iastore, .dup, .bipush 104, .bipush 119, .iastore, .dup, .bipush 105, .bipush 32, .iastore, .dup, .bipush 106, .bipush 119, .iastore, .dup, .bipush 107, .bipush 111, .iastore, .dup, .bipush 108, .bipush 110, .iastore, .dup, .bipush 109, .bipush 32, .iastore, .dup, .bipush 110, .bipush 108, .iastore, .dup, .bipush 111, .bipush 111, .iastore, .dup, .bipush 112, .bipush 115, .iastore, .dup, .bipush 113, .bipush 116, .iastore, .dup, .bipush 114, .bipush 32, .iastore, .dup, .bipush 115, .bipush 119, .iastore, .dup, .bipush 116, .bipush 114, .iastore, .dup, .bipush 117, .bipush 111, .iastore, .dup, .bipush 118, .bipush 110, .iastore, .dup, .bipush 119, .bipush 103, .iastore, .dup, .bipush 120, .bipush 101, .iastore, .dup, .bipush 121, .bipush 100, .iastore, .dup, .bipush 122, .bipush 32, .iastore, .dup, .bipush 123, .bipush 108, .iastore, .dup, .bipush 124, .bipush 105, .iastore, .dup, .bipush 125, .bipush 107, .iastore, .dup, .bipush 126, .bipush 101, .iastore, .dup, .bipush 127, .bipush 32, .iastore, .dup, .bipush 128, .bipush 98, .iastore, .dup, .bipush 129, .bipush 97, .iastore, .dup, .bipush 130, .bipush 99, .iastore, .dup, .bipush 131, .bipush 107, .iastore, .dup, .bipush 132, .bipush 32, .iastore, .dup, .bipush 133, .bipush 115, .iastore, .dup, .bipush 134, .bipush 116, .iastore, .dup, .bipush 135, .bipush 114, .iastore, .dup, .bipush 136, .bipush 111, .iastore, .dup, .bipush 137, .bipush 110, .iastore, .dup, .bipush 138, .bipush 103, .iastore, .dup, .bipush 139, .bipush 32, .iastore, .dup, .bipush 140, .bipush 111, .iastore, .dup, .bipush 141, .bipush 119, .iastore, .dup, .bipush 142, .bipush 110, .iastore, .dup, .bipush 143, .bipush 32, .iastore, .dup, .bipush 144, .bipush 97, .iastore, .dup, .bipush 145, .bipush 99, .iastore, .dup, .bipush 146, .bipush 114, .iastore, .dup, .bipush 147, .bipush 111, .iastore, .dup, .bipush 148, .bipush 115, .iastore, .dup, .bipush 149, .bipush 115, .iastore, .dup, .bipush 150, .bipush 32, .iastore, .dup, .bipush 151, .bipush 115, .iastore, .dup, .bipush 152, .bipush 105, .iastore, .dup, .bipush 153, .bipush 122, .iastore, .dup, .bipush 154, .bipush 101, .iastore, .dup, .bipush 155, .bipush 32, .iastore, .putfield 127112118, .aload 0, .bipush 5, .newarray .int, .putfield 127212122, .aload 0, .bipush 80, .newarray .int, .putfield 127312126, .aload 0, .bipush 80, .newarray .int, .putfield 127412130, .aload 0, .bipush 80, .newarray .int, .putfield 127512134, .aload 0, .bipush 80, .newarray .int, .putfield 127612138, .aload 0, .bipush 5, .newarray .int, .putfield 127712142, .aload 0, .bipush 2500, .newarray .int, .putfield 127812146, .aload 0, .bipush 2500, .newarray .int, .putfield 127912150, .aload 0, .bipush 40, .newarray .int, .putfield 128212162, .aload 0, .bipush (-1), .putfield 128712180, .aload 0, .bipush 5, .newarray .int, .putfield 128812186, .aload 0, .bipush 120, .newarray .int, .putfield 128912190, .aload 0, .bipush 120, .newarray .int, .putfield 129012194, .aload 0, .bipush 14, .newarray .int, .putfield 129112198, .aload 0, .bipush 520, .newarray .int, .putfield 129212202, .aload 0, .bipush 576, .newarray .int, .putfield 129412210, .aload 0, .bipush 24, .newarray .boolean, .putfield 129512214, .aload 0, .bipush 24, .newarray .int, .putfield 130012234, .aload 0, .bipush 3, .newarray .int, .putfield 130112238, .aload 0, .bipush 1200, .newarray .int, .putfield 130912270, .aload 0, .bipush 5, .newarray .int, .putfield 131212282, .aload 0, .bipush 5, .newarray .int, .putfield 131412290, .aload 0, .bipush 5, .newarray .int, .putfield 131512294, .aload 0, .bipush 24, .newarray .boolean, .putfield 131612298, .aload 0, .bipush 24, .newarray .int, .putfield 131712302, .aload 0, .ldc_w 5330054473836, .newarray .int, .putfield 131812306, .aload 0, .bipush 8600, .newarray .int, .putfield 132012314, .return_]]
-- 42: TwoCampsModel.isIn(III)Z
def aC_42 : List (List aI) := [[.iload 1, .iload 2, .if_icmp .lt 3],
  [.iload 1, .iload 3, .if_icmp .gt 3],
  [.bipush 1, .goto 4],
  [.bipush 0],
  [.ireturn]]
-- 43: TwoCampsModel.floor(II)I
def aC_43 : List (List aI) := [[.iload 2, .ifCond .ne 2],
  [.bipush 0, .ireturn],
  [.iload 1, .iload 2, .idiv, .istore 3, .iload 1, .iload 2, .irem, .ifCond .eq 5],
  [.iload 1, .ifCond .ge 5],
  [.iload 3, .bipush 1, .isub, .goto 6],
  [.iload 3],
  [.ireturn]]
-- 44: TwoCampsModel.size(I)I
def aC_44 : List (List aI) := [[.iload 1, .ifCond .ge 2],
  [.iload 1, .ineg, .goto 3],
  [.iload 1],
  [.ireturn]]
-- 45: TwoCampsModel.isBoy(I)Z
def aC_45 : List (List aI) := [[.iload 1, .ifCond .lt 3],
  [.iload 1, .aload 0, .getfield 124412008, .if_icmp .ge 3],
  [.bipush 1, .goto 4],
  [.bipush 0],
  [.ireturn]]
-- 46: TwoCampsModel.isLot(I)Z
def aC_46 : List (List aI) := [[.iload 1, .ifCond .eq 2],
  [.iload 1, .bipush 1, .if_icmp .ne 3],
  [.bipush 1, .goto 4],
  [.bipush 0],
  [.ireturn]]
-- 47: TwoCampsModel.boy(II)I
def aC_47 : List (List aI) := [[.aload 0, .bipush 0, .putfield 124212000, .aload 0, .iload 1, .invokevirtual 1488046, .ifCond .eq 4],
  [.aload 0, .iload 2, .bipush 0, .bipush 9, .invokevirtual 1492042, .ifCond .eq 4],
  [.aload 0, .getfield 124412008, .bipush 24, .if_icmp .eq 4],
  [.aload 0, .getfield 124512012, .ifCond .le 5],
  [.bipush (-1), .ireturn],
  [.aload 0, .getfield 124712022, .aload 0, .getfield 124412008, .iload 1, .iastore, .aload 0, .getfield 124812026, .aload 0, .getfield 124412008, .iload 2, .iastore, .aload 0, .getfield 124912030, .aload 0, .getfield 124412008, .bipush 1, .iastore, .aload 0, .getfield 125012034, .aload 0, .getfield 124412008, .bipush 1, .iastore, .aload 0, .aload 0, .getfield 124412008, .bipush 1, .iadd, .putfield 124412008, .aload 0, .getfield 124412008, .bipush 1, .isub, .ireturn]]
-- 48: TwoCampsModel.like(III)Z
def aC_48 : List (List aI) := [[.aload 0, .bipush 0, .putfield 124212000, .aload 0, .iload 1, .invokevirtual 1500045, .ifCond .eq 4],
  [.aload 0, .iload 2, .invokevirtual 1500045, .ifCond .eq 4],
  [.iload 1, .iload 2, .if_icmp .eq 4],
  [.aload 0, .iload 3, .bipush (-50), .bipush 50, .invokevirtual 1492042, .ifCond .ne 5],
  [.bipush 0, .ireturn],
  [.aload 0, .getfield 125212042, .bipush 24, .iload 1, .imul, .iload 2, .iadd, .iload 3, .iastore, .bipush 1, .ireturn]]
-- 49: TwoCampsModel.knew(IIZ)Z
def aC_49 : List (List aI) := [[.aload 0, .bipush 0, .putfield 124212000, .aload 0, .iload 1, .invokevirtual 1500045, .ifCond .eq 3],
  [.aload 0, .iload 2, .invokevirtual 1500045, .ifCond .eq 3],
  [.iload 1, .iload 2, .if_icmp .ne 4],
  [.bipush 0, .ireturn],
  [.aload 0, .getfield 125312046, .bipush 24, .iload 1, .imul, .iload 2, .iadd, .iload 3, .ifCond .eq 6],
  [.bipush 1, .goto 7],
  [.bipush 0],
  [.iastore, .aload 0, .getfield 125312046, .bipush 24, .iload 2, .imul, .iload 1, .iadd, .iload 3, .ifCond .eq 9],
  [.bipush 1, .goto 10],
  [.bipush 0],
  [.iastore, .bipush 1, .ireturn]]
-- 50: TwoCampsModel.state(I)I
def aC_50 : List (List aI) := [[.aload 0, .bipush 0, .putfield 124212000, .aload 0, .getfield 124312004, .istore 2, .aload 0, .iload 1, .putfield 124312004, .iload 2, .ireturn]]
-- 51: TwoCampsModel.draw(I)I
def aC_51 : List (List aI) := [[.aload 0, .ldc_w 7095287637517, .aload 0, .getfield 124312004, .imul, .ldc_w 7100594844511, .iadd, .putfield 124312004, .aload 0, .getfield 124312004, .bipush 8, .iushr, .iload 1, .irem, .ireturn]]
-- 52: TwoCampsModel.number(II)Z
def aC_52 : List (List aI) := [[.aload 0, .bipush 0, .putfield 124212000, .aload 0, .iload 1, .invokevirtual 1500045, .ifCond .eq 2],
  [.aload 0, .iload 2, .bipush 0, .bipush 99, .invokevirtual 1492042, .ifCond .ne 3],
  [.bipush 0, .ireturn],
  [.aload 0, .getfield 125112038, .iload 1, .iload 2, .iastore, .bipush 1, .ireturn]]
-- 53: TwoCampsModel.sizeOf(I)I
def aC_53 : List (List aI) := [[.bipush 0, .istore 2, .bipush 0, .istore 3],
  [.iload 3, .aload 0, .getfield 124412008, .if_icmp .ge 6],
  [.aload 0, .getfield 124912030, .iload 3, .iaload, .bipush 1, .if_icmp .ne 5],
  [.aload 0, .getfield 124712022, .iload 3, .iaload, .iload 1, .if_icmp .ne 5],
  [.iload 2, .bipush 1, .iadd, .istore 2],
  [.iinc 3 1, .goto 1],
  [.iload 2, .ireturn]]
-- 54: TwoCampsModel.meanOf(II)I
def aC_54 : List (List aI) := [[.bipush 0, .istore 3, .bipush 0, .istore 4, .bipush 0, .istore 5],
  [.iload 5, .aload 0, .getfield 124412008, .if_icmp .ge 13],
  [.bipush 0, .istore 6],
  [.iload 6, .aload 0, .getfield 124412008, .if_icmp .ge 12],
  [.iload 5, .iload 6, .if_icmp .eq 11],
  [.aload 0, .getfield 124912030, .iload 5, .iaload, .ifCond .eq 11],
  [.aload 0, .getfield 124912030, .iload 6, .iaload, .ifCond .eq 11],
  [.aload 0, .getfield 124712022, .iload 5, .iaload, .iload 1, .if_icmp .ne 11],
  [.aload 0, .getfield 124712022, .iload 6, .iaload, .iload 2, .if_icmp .eq 10],
  [.goto 11],
  [.iload 3, .aload 0, .getfield 125212042, .bipush 24, .iload 5, .imul, .iload 6, .iadd, .iaload, .iadd, .istore 3, .iload 4, .bipush 1, .iadd, .istore 4],
  [.iinc 6 1, .goto 3],
  [.iinc 5 1, .goto 1],
  [.aload 0, .iload 3, .iload 4, .invokevirtual 1644043, .ireturn]]
-- 55: TwoCampsModel.cross()I
def aC_55 : List (List aI) := [[.bipush 0, .istore 1, .bipush 0, .istore 2, .bipush 0, .istore 3],
  [.iload 3, .aload 0, .getfield 124412008, .if_icmp .ge 11],
  [.bipush 0, .istore 4],
  [.iload 4, .aload 0, .getfield 124412008, .if_icmp .ge 10],
  [.aload 0, .getfield 124912030, .iload 3, .iaload, .ifCond .eq 9],
  [.aload 0, .getfield 124912030, .iload 4, .iaload, .ifCond .eq 9],
  [.aload 0, .getfield 124712022, .iload 3, .iaload, .aload 0, .getfield 124712022, .iload 4, .iaload, .if_icmp .ne 8],
  [.goto 9],
  [.iload 1, .aload 0, .getfield 125212042, .bipush 24, .iload 3, .imul, .iload 4, .iadd, .iaload, .iadd, .istore 1, .iload 2, .bipush 1, .iadd, .istore 2],
  [.iinc 4 1, .goto 3],
  [.iinc 3 1, .goto 1],
  [.aload 0, .iload 1, .iload 2, .invokevirtual 1644043, .ireturn]]
-- 56: TwoCampsModel.meanFor(II)I
def aC_56 : List (List aI) := [[.bipush 0, .istore 3, .bipush 0, .istore 4, .bipush 0, .istore 5],
  [.iload 5, .aload 0, .getfield 124412008, .if_icmp .ge 17],
  [.iload 5, .iload 1, .if_icmp .eq 16],
  [.aload 0, .getfield 124912030, .iload 5, .iaload, .ifCond .eq 16],
  [.aload 0, .getfield 124712022, .iload 5, .iaload, .aload 0, .getfield 124712022, .iload 1, .iaload, .if_icmp .ne 6],
  [.bipush 1, .goto 7],
  [.bipush 0],
  [.iload 2, .bipush 1, .if_icmp .eq 9],
  [.bipush 1, .goto 10],
  [.bipush 0],
  [.if_icmp .eq 12],
  [.goto 16],
  [.iload 3, .iload 2, .bipush 2, .if_icmp .ne 14],
  [.aload 0, .getfield 125212042, .bipush 24, .iload 1, .imul, .iload 5, .iadd, .iaload, .goto 15],
  [.aload 0, .getfield 125212042, .bipush 24, .iload 5, .imul, .iload 1, .iadd, .iaload],
  [.iadd, .istore 3, .iload 4, .bipush 1, .iadd, .istore 4],
  [.iinc 5 1, .goto 1],
  [.aload 0, .iload 3, .iload 4, .invokevirtual 1644043, .ireturn]]
-- 57: TwoCampsModel.puts(I)V
def aC_57 : List (List aI) := [[.bipush 24, .istore 2],
  [.iload 2, .ifCond .lt 3],
  [.aload 0, .getfield 126512094, .aload 0, .getfield 126612096, .iload 1, .iload 2, .ishr, .bipush 255, .iand, .iastore, .aload 0, .aload 0, .getfield 126612096, .bipush 1, .iadd, .putfield 126612096, .iinc 2 (-8), .goto 1],
  [.return_]]
-- 58: TwoCampsModel.feed(IIIII)I
def aC_58 : List (List aI) := [[.aload 0, .bipush 0, .putfield 124212000, .aload 0, .getfield 126612096, .bipush 480, .if_icmp .le 2],
  [.bipush (-1), .ireturn],
  [.aload 0, .iload 1, .invokevirtual 1520057, .aload 0, .iload 2, .invokevirtual 1520057, .aload 0, .iload 3, .invokevirtual 1520057, .aload 0, .iload 4, .invokevirtual 1520057, .aload 0, .iload 5, .invokevirtual 1520057, .aload 0, .getfield 126612096, .ireturn]]
-- 59: TwoCampsModel.end(I)Z
def aC_59 : List (List aI) := [[.aload 0, .bipush 0, .putfield 124212000, .aload 0, .iload 1, .bipush 0, .aload 0, .getfield 126612096, .invokevirtual 1492042, .ifCond .ne 2],
  [.bipush 0, .ireturn],
  [.aload 0, .iload 1, .putfield 126612096, .bipush 1, .ireturn]]
-- 60: TwoCampsModel.raw(I)I
def aC_60 : List (List aI) := [[.iload 1, .aload 0, .getfield 126612096, .if_icmp .ge 2],
  [.aload 0, .getfield 126512094, .iload 1, .iaload, .goto 3],
  [.bipush (-1)],
  [.ireturn]]
-- 61: TwoCampsModel.isLetter(I)Z
def aC_61 : List (List aI) := [[.aload 0, .iload 1, .bipush 97, .bipush 122, .invokevirtual 1492042, .ifCond .ne 2],
  [.aload 0, .iload 1, .bipush 65, .bipush 90, .invokevirtual 1492042, .ifCond .eq 3],
  [.bipush 1, .goto 4],
  [.bipush 0],
  [.ireturn]]
-- 62: TwoCampsModel.isDigit(I)Z
def aC_62 : List (List aI) := [[.aload 0, .iload 1, .bipush 48, .bipush 57, .invokevirtual 1492042, .ireturn]]
-- 63: TwoCampsModel.isMarkSign(I)Z
def aC_63 : List (List aI) := [[.iload 1, .bipush 59, .if_icmp .eq 10],
  [.iload 1, .bipush 43, .if_icmp .eq 10],
  [.iload 1, .bipush 45, .if_icmp .eq 10],
  [.iload 1, .bipush 42, .if_icmp .eq 10],
  [.iload 1, .bipush 47, .if_icmp .eq 10],
  [.iload 1, .bipush 40, .if_icmp .eq 10],
  [.iload 1, .bipush 41, .if_icmp .eq 10],
  [.iload 1, .bipush 60, .if_icmp .eq 10],
  [.iload 1, .bipush 61, .if_icmp .eq 10],
  [.iload 1, .bipush 62, .if_icmp .ne 11],
  [.bipush 1, .goto 12],
  [.bipush 0],
  [.ireturn]]
-- 64: TwoCampsModel.wordAt(II)I
def aC_64 : List (List aI) := [[.bipush (-1), .istore 3, .bipush 0, .istore 4],
  [.iload 4, .bipush 155, .if_icmp .ge 13],
  [.bipush 0, .istore 5, .iload 3, .bipush 1, .iadd, .istore 3],
  [.iload 1, .iload 5, .iadd, .iload 2, .if_icmp .ge 6],
  [.aload 0, .getfield 127112118, .iload 4, .bipush 1, .iadd, .iload 5, .iadd, .iaload, .aload 0, .getfield 126512094, .iload 1, .iload 5, .iadd, .iaload, .if_icmp .ne 6],
  [.iload 5, .bipush 1, .iadd, .istore 5, .goto 3],
  [.iload 1, .iload 5, .iadd, .iload 2, .if_icmp .ne 9],
  [.aload 0, .getfield 127112118, .iload 4, .bipush 1, .iadd, .iload 5, .iadd, .iaload, .bipush 32, .if_icmp .ne 9],
  [.iload 3, .ireturn],
  [.iload 4, .bipush 1, .iadd, .istore 4],
  [.aload 0, .getfield 127112118, .iload 4, .iaload, .bipush 32, .if_icmp .eq 12],
  [.iload 4, .bipush 1, .iadd, .istore 4, .goto 10],
  [.goto 1],
  [.bipush (-1), .ireturn]]
-- 65: TwoCampsModel.reads()V
def aC_65 : List (List aI) := [[.aload 0, .aload 0, .getfield 126712100, .invokevirtual 1536060, .bipush 32, .if_icmp .eq 2],
  [.aload 0, .aload 0, .getfield 126712100, .invokevirtual 1536060, .bipush 10, .if_icmp .ne 3],
  [.aload 0, .aload 0, .getfield 126712100, .bipush 1, .iadd, .putfield 126712100, .goto 0],
  [.aload 0, .aload 0, .getfield 126712100, .putfield 126812104, .aload 0, .bipush 1, .putfield 126912108, .aload 0, .aload 0, .getfield 126712100, .invokevirtual 1536060, .istore 1, .iload 1, .bipush (-1), .if_icmp .ne 5],
  [.aload 0, .bipush 0, .putfield 126912108, .return_],
  [.aload 0, .aload 0, .getfield 126712100, .bipush 1, .iadd, .putfield 126712100, .aload 0, .iload 1, .putfield 127012112, .aload 0, .iload 1, .invokevirtual 1540061, .ifCond .eq 10],
  [.aload 0, .aload 0, .aload 0, .getfield 126712100, .invokevirtual 1536060, .invokevirtual 1540061, .ifCond .eq 8],
  [.aload 0, .aload 0, .getfield 126712100, .bipush 1, .iadd, .putfield 126712100, .goto 6],
  [.aload 0, .aload 0, .aload 0, .getfield 126812104, .aload 0, .getfield 126712100, .invokevirtual 1544064, .putfield 127012112, .aload 0, .getfield 127012112, .bipush (-1), .if_icmp .eq 21],
  [.aload 0, .bipush 2, .putfield 126912108, .goto 21],
  [.aload 0, .iload 1, .invokevirtual 1548062, .ifCond .eq 19],
  [.aload 0, .iload 1, .bipush 48, .isub, .putfield 127012112],
  [.aload 0, .aload 0, .aload 0, .getfield 126712100, .invokevirtual 1536060, .invokevirtual 1548062, .ifCond .eq 17],
  [.aload 0, .aload 0, .getfield 127012112, .bipush 10000, .if_icmp .ge 15],
  [.bipush 10, .aload 0, .getfield 127012112, .imul, .aload 0, .aload 0, .getfield 126712100, .invokevirtual 1536060, .iadd, .bipush 48, .isub, .goto 16],
  [.aload 0, .getfield 127012112],
  [.putfield 127012112, .aload 0, .aload 0, .getfield 126712100, .bipush 1, .iadd, .putfield 126712100, .goto 12],
  [.aload 0, .getfield 126712100, .aload 0, .getfield 126812104, .isub, .bipush 5, .if_icmp .ge 21],
  [.aload 0, .bipush 3, .putfield 126912108, .goto 21],
  [.aload 0, .iload 1, .invokevirtual 1552063, .ifCond .eq 21],
  [.aload 0, .bipush 4, .putfield 126912108],
  [.return_]]
-- 66: TwoCampsModel.fails(I)I
def aC_66 : List (List aI) := [[.aload 0, .iload 1, .putfield 128412168, .aload 0, .aload 0, .getfield 126812104, .putfield 128512172, .bipush (-1), .ireturn]]
-- 67: TwoCampsModel.isWord(I)Z
def aC_67 : List (List aI) := [[.aload 0, .getfield 126912108, .bipush 2, .if_icmp .ne 3],
  [.aload 0, .getfield 127012112, .iload 1, .if_icmp .ne 3],
  [.bipush 1, .goto 4],
  [.bipush 0],
  [.ireturn]]
-- 68: TwoCampsModel.isSign(I)Z
def aC_68 : List (List aI) := [[.aload 0, .getfield 126912108, .bipush 4, .if_icmp .ne 3],
  [.aload 0, .getfield 127012112, .iload 1, .if_icmp .ne 3],
  [.bipush 1, .goto 4],
  [.bipush 0],
  [.ireturn]]
-- 69: TwoCampsModel.emits(II)V
def aC_69 : List (List aI) := [[.aload 0, .getfield 127812146, .bipush 2000, .aload 0, .getfield 128012152, .iadd, .iload 1, .iastore, .aload 0, .getfield 127912150, .bipush 2000, .aload 0, .getfield 128012152, .iadd, .iload 2, .iastore, .aload 0, .aload 0, .getfield 128012152, .bipush 1, .iadd, .putfield 128012152, .return_]]
-- 70: TwoCampsModel.readUnit()I
def aC_70 : List (List aI) := [[.aload 0, .getfield 126912108, .bipush 2, .if_icmp .ne 3],
  [.aload 0, .getfield 127012112, .bipush 15, .if_icmp .lt 3],
  [.bipush 1, .goto 4],
  [.bipush 0],
  [.istore 1, .iload 1, .ifCond .ne 7],
  [.aload 0, .getfield 126912108, .bipush 3, .if_icmp .eq 7],
  [.aload 0, .bipush 1, .invokevirtual 1560066, .ireturn],
  [.aload 0, .iload 1, .ifCond .eq 9],
  [.bipush 1, .goto 10],
  [.bipush 0],
  [.iload 1, .ifCond .eq 12],
  [.aload 0, .getfield 127012112, .bipush 15, .isub, .goto 13],
  [.aload 0, .getfield 127012112],
  [.invokevirtual 1576069, .aload 0, .invokevirtual 1532065, .bipush 0, .ireturn]]
-- 71: TwoCampsModel.readProduct()I
def aC_71 : List (List aI) := [[.aload 0, .invokevirtual 1572070, .bipush (-1), .if_icmp .ne 2],
  [.bipush (-1), .ireturn],
  [.aload 0, .bipush 42, .invokevirtual 1580068, .ifCond .ne 4],
  [.aload 0, .bipush 47, .invokevirtual 1580068, .ifCond .eq 16],
  [.aload 0, .bipush 42, .invokevirtual 1580068, .istore 1, .aload 0, .invokevirtual 1532065, .iload 1, .ifCond .ne 7],
  [.aload 0, .getfield 126912108, .bipush 3, .if_icmp .eq 7],
  [.aload 0, .bipush 1, .invokevirtual 1560066, .ireturn],
  [.iload 1, .ifCond .ne 10],
  [.aload 0, .getfield 127012112, .ifCond .ne 10],
  [.aload 0, .bipush 2, .invokevirtual 1560066, .ireturn],
  [.aload 0, .invokevirtual 1572070, .bipush (-1), .if_icmp .ne 12],
  [.bipush (-1), .ireturn],
  [.aload 0, .iload 1, .ifCond .eq 14],
  [.bipush 4, .goto 15],
  [.bipush 5],
  [.bipush 0, .invokevirtual 1576069, .goto 2],
  [.bipush 0, .ireturn]]
-- 72: TwoCampsModel.readSum()I
def aC_72 : List (List aI) := [[.aload 0, .invokevirtual 1568071, .bipush (-1), .if_icmp .ne 2],
  [.bipush (-1), .ireturn],
  [.aload 0, .bipush 43, .invokevirtual 1580068, .ifCond .ne 4],
  [.aload 0, .bipush 45, .invokevirtual 1580068, .ifCond .eq 10],
  [.aload 0, .getfield 127012112, .bipush 43, .if_icmp .ne 6],
  [.bipush 2, .goto 7],
  [.bipush 3],
  [.istore 1, .aload 0, .invokevirtual 1532065, .aload 0, .invokevirtual 1568071, .bipush (-1), .if_icmp .ne 9],
  [.bipush (-1), .ireturn],
  [.aload 0, .iload 1, .bipush 0, .invokevirtual 1576069, .goto 2],
  [.bipush 0, .ireturn]]
-- 73: TwoCampsModel.readCompared()I
def aC_73 : List (List aI) := [[.aload 0, .invokevirtual 1564072, .bipush (-1), .if_icmp .ne 2],
  [.bipush (-1), .ireturn],
  [.aload 0, .bipush 60, .invokevirtual 1580068, .ifCond .ne 6],
  [.aload 0, .bipush 61, .invokevirtual 1580068, .ifCond .ne 6],
  [.aload 0, .bipush 62, .invokevirtual 1580068, .ifCond .ne 6],
  [.aload 0, .bipush 1, .invokevirtual 1560066, .ireturn],
  [.aload 0, .getfield 127012112, .bipush 60, .if_icmp .ne 8],
  [.bipush 6, .goto 11],
  [.aload 0, .getfield 127012112, .bipush 61, .if_icmp .ne 10],
  [.bipush 7, .goto 11],
  [.bipush 8],
  [.istore 1, .aload 0, .invokevirtual 1532065, .aload 0, .invokevirtual 1564072, .bipush (-1), .if_icmp .ne 13],
  [.bipush (-1), .ireturn],
  [.aload 0, .iload 1, .bipush 0, .invokevirtual 1576069, .bipush 0, .ireturn]]
-- 74: TwoCampsModel.waits(I)V
def aC_74 : List (List aI) := [[.aload 0, .getfield 128212162, .aload 0, .getfield 128312164, .iload 1, .iastore, .aload 0, .aload 0, .getfield 128312164, .bipush 1, .iadd, .putfield 128312164, .return_]]
-- 75: TwoCampsModel.settles(I)V
def aC_75 : List (List aI) := [[.aload 0, .getfield 128312164, .ifCond .le 4],
  [.aload 0, .getfield 128212162, .aload 0, .getfield 128312164, .bipush 1, .isub, .iaload, .iload 1, .if_icmp .ne 4],
  [.aload 0, .aload 0, .getfield 128312164, .bipush 1, .isub, .putfield 128312164, .aload 0, .iload 1, .bipush 0, .invokevirtual 1576069, .iload 1, .bipush 9, .if_icmp .ne 0],
  [.aload 0, .aload 0, .getfield 128112156, .bipush 1, .isub, .putfield 128112156, .goto 0],
  [.return_]]
-- 76: TwoCampsModel.readAny()I
def aC_76 : List (List aI) := [[.bipush 0, .istore 1, .aload 0, .bipush 0, .putfield 128312164, .bipush 1, .istore 2],
  [.iload 2, .ifCond .eq 15],
  [.aload 0, .bipush 14, .invokevirtual 1584067, .istore 3, .iload 3, .ifCond .ne 4],
  [.aload 0, .bipush 40, .invokevirtual 1580068, .ifCond .eq 12],
  [.aload 0, .getfield 128112156, .bipush 8, .if_icmp .ne 6],
  [.aload 0, .bipush 3, .invokevirtual 1560066, .ireturn],
  [.aload 0, .aload 0, .getfield 128112156, .bipush 1, .iadd, .putfield 128112156, .iload 3, .ifCond .ne 8],
  [.iload 1, .bipush 1, .iadd, .istore 1],
  [.aload 0, .iload 3, .ifCond .eq 10],
  [.bipush 9, .goto 11],
  [.bipush 12],
  [.invokevirtual 1592074, .aload 0, .invokevirtual 1532065, .goto 1],
  [.aload 0, .invokevirtual 1596073, .bipush (-1), .if_icmp .ne 14],
  [.bipush (-1), .ireturn],
  [.aload 0, .bipush 9, .invokevirtual 1600075, .bipush 0, .istore 2, .goto 1],
  [.aload 0, .bipush 13, .invokevirtual 1584067, .ifCond .eq 17],
  [.aload 0, .bipush 10, .invokevirtual 1600075, .aload 0, .bipush 10, .invokevirtual 1592074, .aload 0, .invokevirtual 1532065, .bipush 1, .istore 2, .goto 1],
  [.aload 0, .bipush 12, .invokevirtual 1584067, .ifCond .eq 19],
  [.aload 0, .bipush 10, .invokevirtual 1600075, .aload 0, .bipush 11, .invokevirtual 1600075, .aload 0, .bipush 11, .invokevirtual 1592074, .aload 0, .invokevirtual 1532065, .bipush 1, .istore 2, .goto 1],
  [.aload 0, .bipush 10, .invokevirtual 1600075, .aload 0, .bipush 11, .invokevirtual 1600075, .iload 1, .ifCond .ne 21],
  [.bipush 0, .ireturn],
  [.aload 0, .bipush 41, .invokevirtual 1580068, .ifCond .ne 23],
  [.aload 0, .bipush 1, .invokevirtual 1560066, .ireturn],
  [.aload 0, .aload 0, .getfield 128312164, .bipush 1, .isub, .putfield 128312164, .iload 1, .bipush 1, .isub, .istore 1, .aload 0, .aload 0, .getfield 128112156, .bipush 1, .isub, .putfield 128112156, .aload 0, .bipush 9, .invokevirtual 1600075, .aload 0, .invokevirtual 1532065, .goto 1]]
-- 77: TwoCampsModel.readLaw()I
def aC_77 : List (List aI) := [[.bipush 0, .istore 1],
  [.aload 0, .getfield 126912108, .bipush 2, .if_icmp .ne 13],
  [.aload 0, .getfield 127012112, .bipush 5, .if_icmp .gt 13],
  [.iload 1, .bipush 16, .if_icmp .ne 5],
  [.aload 0, .bipush 3, .invokevirtual 1560066, .ireturn],
  [.bipush 64, .iload 1, .iadd, .istore 2, .aload 0, .getfield 127312126, .iload 2, .aload 0, .getfield 127012112, .iastore, .aload 0, .invokevirtual 1532065, .aload 0, .getfield 127412130, .iload 2, .aload 0, .getfield 128012152, .iastore, .aload 0, .invokevirtual 1564072, .bipush (-1), .if_icmp .ne 7],
  [.bipush (-1), .ireturn],
  [.aload 0, .getfield 127512134, .iload 2, .aload 0, .getfield 128012152, .iastore, .aload 0, .bipush 11, .invokevirtual 1584067, .ifCond .eq 10],
  [.aload 0, .invokevirtual 1532065, .aload 0, .invokevirtual 1588076, .bipush (-1), .if_icmp .ne 10],
  [.bipush (-1), .ireturn],
  [.aload 0, .getfield 127612138, .iload 2, .aload 0, .getfield 128012152, .iastore, .aload 0, .bipush 59, .invokevirtual 1580068, .ifCond .ne 12],
  [.aload 0, .bipush 1, .invokevirtual 1560066, .ireturn],
  [.aload 0, .invokevirtual 1532065, .iload 1, .bipush 1, .iadd, .istore 1, .goto 1],
  [.aload 0, .getfield 126912108, .ifCond .ne 15],
  [.iload 1, .goto 16],
  [.aload 0, .bipush 1, .invokevirtual 1560066],
  [.ireturn]]
-- 78: TwoCampsModel.takesLaw(II)V
def aC_78 : List (List aI) := [[.bipush 0, .istore 3],
  [.iload 3, .iload 2, .if_icmp .ge 3],
  [.aload 0, .getfield 127312126, .bipush 16, .iload 1, .imul, .iload 3, .iadd, .aload 0, .getfield 127312126, .bipush 64, .iload 3, .iadd, .iaload, .iastore, .aload 0, .getfield 127412130, .bipush 16, .iload 1, .imul, .iload 3, .iadd, .aload 0, .getfield 127412130, .bipush 64, .iload 3, .iadd, .iaload, .iastore, .aload 0, .getfield 127512134, .bipush 16, .iload 1, .imul, .iload 3, .iadd, .aload 0, .getfield 127512134, .bipush 64, .iload 3, .iadd, .iaload, .iastore, .aload 0, .getfield 127612138, .bipush 16, .iload 1, .imul, .iload 3, .iadd, .aload 0, .getfield 127612138, .bipush 64, .iload 3, .iadd, .iaload, .iastore, .iinc 3 1, .goto 1],
  [.bipush 0, .istore 3],
  [.iload 3, .aload 0, .getfield 128012152, .if_icmp .ge 6],
  [.aload 0, .getfield 127812146, .bipush 500, .iload 1, .imul, .iload 3, .iadd, .aload 0, .getfield 127812146, .bipush 2000, .iload 3, .iadd, .iaload, .iastore, .aload 0, .getfield 127912150, .bipush 500, .iload 1, .imul, .iload 3, .iadd, .aload 0, .getfield 127912150, .bipush 2000, .iload 3, .iadd, .iaload, .iastore, .iinc 3 1, .goto 4],
  [.aload 0, .getfield 127212122, .iload 1, .iload 2, .iastore, .aload 0, .getfield 127712142, .iload 1, .aload 0, .getfield 128012152, .iastore, .return_]]
-- 79: TwoCampsModel.readPlan()I
def aC_79 : List (List aI) := [[.bipush 0, .istore 1],
  [.aload 0, .getfield 126912108, .bipush 2, .if_icmp .ne 18],
  [.aload 0, .aload 0, .getfield 127012112, .bipush 6, .bipush 10, .invokevirtual 1492042, .ifCond .eq 18],
  [.iload 1, .bipush 24, .if_icmp .ne 5],
  [.aload 0, .bipush 3, .invokevirtual 1560066, .ireturn],
  [.aload 0, .getfield 127012112, .istore 2, .aload 0, .getfield 128912190, .bipush 96, .iload 1, .iadd, .iload 2, .iastore, .aload 0, .getfield 129012194, .bipush 96, .iload 1, .iadd, .bipush 0, .iastore, .aload 0, .invokevirtual 1532065, .iload 2, .bipush 7, .if_icmp .eq 7],
  [.iload 2, .bipush 10, .if_icmp .ne 15],
  [.aload 0, .getfield 126912108, .bipush 3, .if_icmp .eq 9],
  [.aload 0, .bipush 1, .invokevirtual 1560066, .ireturn],
  [.aload 0, .getfield 127012112, .iload 2, .bipush 10, .if_icmp .ne 11],
  [.bipush 1, .goto 12],
  [.bipush 9],
  [.if_icmp .le 14],
  [.aload 0, .bipush 2, .invokevirtual 1560066, .ireturn],
  [.aload 0, .getfield 129012194, .bipush 96, .iload 1, .iadd, .aload 0, .getfield 127012112, .iastore, .aload 0, .invokevirtual 1532065],
  [.aload 0, .bipush 59, .invokevirtual 1580068, .ifCond .ne 17],
  [.aload 0, .bipush 1, .invokevirtual 1560066, .ireturn],
  [.aload 0, .invokevirtual 1532065, .iload 1, .bipush 1, .iadd, .istore 1, .goto 1],
  [.aload 0, .getfield 126912108, .ifCond .ne 20],
  [.iload 1, .goto 21],
  [.aload 0, .bipush 1, .invokevirtual 1560066],
  [.ireturn]]
-- 80: TwoCampsModel.takesPlan(II)V
def aC_80 : List (List aI) := [[.bipush 0, .istore 3],
  [.iload 3, .iload 2, .if_icmp .ge 3],
  [.aload 0, .getfield 128912190, .bipush 24, .iload 1, .imul, .iload 3, .iadd, .aload 0, .getfield 128912190, .bipush 96, .iload 3, .iadd, .iaload, .iastore, .aload 0, .getfield 129012194, .bipush 24, .iload 1, .imul, .iload 3, .iadd, .aload 0, .getfield 129012194, .bipush 96, .iload 3, .iadd, .iaload, .iastore, .iinc 3 1, .goto 1],
  [.aload 0, .getfield 128812186, .iload 1, .iload 2, .iastore, .return_]]
-- 81: TwoCampsModel.text(II)I
def aC_81 : List (List aI) := [[.aload 0, .bipush 0, .putfield 124212000, .aload 0, .bipush 0, .putfield 128612176, .aload 0, .bipush (-1), .putfield 128712180, .aload 0, .iload 1, .bipush 0, .bipush 1, .invokevirtual 1492042, .ifCond .eq 3],
  [.aload 0, .iload 2, .bipush 0, .bipush 3, .invokevirtual 1492042, .ifCond .eq 3],
  [.bipush 1, .goto 4],
  [.bipush 0],
  [.istore 3, .aload 0, .bipush 0, .putfield 126712100, .aload 0, .bipush 0, .putfield 128012152, .aload 0, .bipush 0, .putfield 128112156, .aload 0, .invokevirtual 1532065, .iload 3, .ifCond .ne 6],
  [.bipush (-1), .goto 9],
  [.iload 1, .ifCond .ne 8],
  [.aload 0, .invokevirtual 1556077, .goto 9],
  [.aload 0, .invokevirtual 1604079],
  [.istore 4, .aload 0, .bipush 0, .putfield 126612096, .iload 3, .ifCond .eq 12],
  [.iload 4, .bipush (-1), .if_icmp .ne 12],
  [.aload 0, .aload 0, .getfield 128412168, .putfield 128612176, .aload 0, .aload 0, .getfield 128512172, .putfield 128712180],
  [.iload 4, .bipush (-1), .if_icmp .ne 14],
  [.bipush (-1), .ireturn],
  [.iload 1, .ifCond .ne 16],
  [.aload 0, .iload 2, .iload 4, .invokevirtual 1608078, .goto 17],
  [.aload 0, .iload 2, .iload 4, .invokevirtual 1612080],
  [.iload 4, .ireturn]]
-- 82: TwoCampsModel.fault(I)I
def aC_82 : List (List aI) := [[.aload 0, .bipush 0, .putfield 124212000, .iload 1, .ifCond .ne 2],
  [.aload 0, .getfield 128612176, .goto 5],
  [.iload 1, .bipush 1, .if_icmp .ne 4],
  [.aload 0, .getfield 128712180, .goto 5],
  [.bipush (-1)],
  [.ireturn]]
-- 83: TwoCampsModel.twoOf(III)I
def aC_83 : List (List aI) := [[.iload 1, .bipush 2, .if_icmp .ne 2],
  [.iload 2, .iload 3, .iadd, .ireturn],
  [.iload 1, .bipush 3, .if_icmp .ne 4],
  [.iload 2, .iload 3, .isub, .ireturn],
  [.iload 1, .bipush 4, .if_icmp .ne 6],
  [.iload 2, .iload 3, .imul, .ireturn],
  [.iload 1, .bipush 5, .if_icmp .ne 8],
  [.iload 2, .iload 3, .idiv, .ireturn],
  [.iload 1, .bipush 6, .if_icmp .ne 13],
  [.iload 2, .iload 3, .if_icmp .ge 11],
  [.bipush 1, .goto 12],
  [.bipush 0],
  [.ireturn],
  [.iload 1, .bipush 7, .if_icmp .ne 18],
  [.iload 2, .iload 3, .if_icmp .ne 16],
  [.bipush 1, .goto 17],
  [.bipush 0],
  [.ireturn],
  [.iload 1, .bipush 8, .if_icmp .ne 23],
  [.iload 2, .iload 3, .if_icmp .le 21],
  [.bipush 1, .goto 22],
  [.bipush 0],
  [.ireturn],
  [.iload 1, .bipush 10, .if_icmp .ne 25],
  [.iload 2, .iload 3, .imul, .goto 28],
  [.iload 2, .iload 3, .iadd, .ifCond .le 27],
  [.bipush 1, .goto 28],
  [.bipush 0],
  [.ireturn]]
-- 84: TwoCampsModel.worth(III)I
def aC_84 : List (List aI) := [[.bipush 0, .istore 4, .bipush 500, .iload 1, .imul, .iload 2, .iadd, .istore 5],
  [.iload 5, .bipush 500, .iload 1, .imul, .iload 3, .iadd, .if_icmp .ge 12],
  [.aload 0, .getfield 127812146, .iload 5, .iaload, .ifCond .eq 4],
  [.aload 0, .getfield 127812146, .iload 5, .iaload, .bipush 1, .if_icmp .ne 8],
  [.aload 0, .getfield 129212202, .iload 4, .aload 0, .getfield 127812146, .iload 5, .iaload, .ifCond .ne 6],
  [.aload 0, .getfield 127912150, .iload 5, .iaload, .goto 7],
  [.aload 0, .getfield 129112198, .aload 0, .getfield 127912150, .iload 5, .iaload, .iaload],
  [.iastore, .iload 4, .bipush 1, .iadd, .istore 4, .goto 11],
  [.aload 0, .getfield 127812146, .iload 5, .iaload, .bipush 9, .if_icmp .ne 10],
  [.aload 0, .getfield 129212202, .iload 4, .bipush 1, .isub, .bipush 1, .aload 0, .getfield 129212202, .iload 4, .bipush 1, .isub, .iaload, .isub, .iastore, .goto 11],
  [.iload 4, .bipush 1, .isub, .istore 4, .aload 0, .getfield 129212202, .iload 4, .bipush 1, .isub, .aload 0, .aload 0, .getfield 127812146, .iload 5, .iaload, .aload 0, .getfield 129212202, .iload 4, .bipush 1, .isub, .iaload, .aload 0, .getfield 129212202, .iload 4, .iaload, .invokevirtual 1674083, .iastore],
  [.iinc 5 1, .goto 1],
  [.aload 0, .getfield 129212202, .bipush 0, .iaload, .ireturn]]
-- 85: TwoCampsModel.tells(I)I
def aC_85 : List (List aI) := [[.bipush 16, .aload 0, .getfield 124612016, .imul, .istore 2],
  [.iload 2, .bipush 16, .aload 0, .getfield 124612016, .imul, .aload 0, .getfield 127212122, .aload 0, .getfield 124612016, .iaload, .iadd, .if_icmp .ge 8],
  [.aload 0, .getfield 127312126, .iload 2, .iaload, .iload 1, .if_icmp .ne 7],
  [.aload 0, .getfield 127612138, .iload 2, .iaload, .aload 0, .getfield 127512134, .iload 2, .iaload, .if_icmp .le 6],
  [.aload 0, .aload 0, .getfield 124612016, .aload 0, .getfield 127512134, .iload 2, .iaload, .aload 0, .getfield 127612138, .iload 2, .iaload, .invokevirtual 1670084, .ifCond .ne 6],
  [.goto 7],
  [.aload 0, .bipush 1, .putfield 129312205, .aload 0, .aload 0, .getfield 124612016, .aload 0, .getfield 127412130, .iload 2, .iaload, .aload 0, .getfield 127512134, .iload 2, .iaload, .invokevirtual 1670084, .ireturn],
  [.iinc 2 1, .goto 1],
  [.aload 0, .bipush 0, .putfield 129312205, .bipush 0, .ireturn]]
-- 86: TwoCampsModel.asksDay(I)V
def aC_86 : List (List aI) := [[.bipush 0, .istore 2],
  [.iload 2, .bipush 14, .if_icmp .ge 3],
  [.aload 0, .getfield 129112198, .iload 2, .bipush 0, .iastore, .iinc 2 1, .goto 1],
  [.aload 0, .getfield 129112198, .bipush 0, .aload 0, .getfield 125912068, .iastore, .aload 0, .getfield 129112198, .bipush 1, .aload 0, .getfield 126012072, .iastore, .aload 0, .getfield 129112198, .bipush 2, .aload 0, .getfield 126112076, .iastore, .aload 0, .getfield 129112198, .bipush 5, .aload 0, .getfield 126212080, .iload 1, .if_icmp .ne 5],
  [.bipush 1, .goto 6],
  [.bipush 0],
  [.iastore, .aload 0, .getfield 129112198, .bipush 6, .aload 0, .getfield 126212080, .bipush 1, .iload 1, .isub, .if_icmp .ne 8],
  [.bipush 1, .goto 9],
  [.bipush 0],
  [.iastore, .aload 0, .getfield 129112198, .bipush 7, .aload 0, .getfield 126312084, .iload 1, .if_icmp .ne 11],
  [.bipush 1, .goto 12],
  [.bipush 0],
  [.iastore, .return_]]
-- 87: TwoCampsModel.tellsCouple(III)I
def aC_87 : List (List aI) := [[.aload 0, .aload 0, .getfield 124712022, .iload 2, .iaload, .invokevirtual 1662086, .aload 0, .getfield 129112198, .bipush 3, .aload 0, .getfield 124712022, .iload 2, .iaload, .aload 0, .getfield 124712022, .iload 3, .iaload, .if_icmp .ne 2],
  [.bipush 1, .goto 3],
  [.bipush 0],
  [.iastore, .aload 0, .getfield 129112198, .bipush 4, .aload 0, .getfield 125312046, .bipush 24, .iload 2, .imul, .iload 3, .iadd, .iaload, .iastore, .aload 0, .getfield 129112198, .bipush 8, .aload 0, .getfield 125212042, .bipush 24, .iload 2, .imul, .iload 3, .iadd, .iaload, .iastore, .aload 0, .getfield 129112198, .bipush 9, .aload 0, .getfield 125212042, .bipush 24, .iload 3, .imul, .iload 2, .iadd, .iaload, .iastore, .aload 0, .getfield 129112198, .bipush 10, .aload 0, .getfield 124812026, .iload 3, .iaload, .iastore, .aload 0, .iload 1, .invokevirtual 1666085, .ireturn]]
-- 88: TwoCampsModel.tellsLot(II)I
def aC_88 : List (List aI) := [[.aload 0, .iload 2, .invokevirtual 1662086, .aload 0, .getfield 129112198, .bipush 11, .aload 0, .iload 2, .iload 2, .invokevirtual 1640054, .iastore, .aload 0, .getfield 129112198, .bipush 12, .aload 0, .iload 2, .bipush 1, .iload 2, .isub, .invokevirtual 1640054, .iastore, .aload 0, .getfield 129112198, .bipush 13, .aload 0, .iload 2, .invokevirtual 1688053, .iastore, .aload 0, .iload 1, .invokevirtual 1666085, .ireturn]]
-- 89: TwoCampsModel.tellsHome(I)I
def aC_89 : List (List aI) := [[.aload 0, .aload 0, .getfield 124712022, .iload 1, .iaload, .invokevirtual 1662086, .aload 0, .getfield 129112198, .bipush 8, .aload 0, .iload 1, .bipush 2, .invokevirtual 1700056, .iastore, .aload 0, .getfield 129112198, .bipush 10, .aload 0, .getfield 124812026, .iload 1, .iaload, .iastore, .aload 0, .getfield 129112198, .bipush 11, .aload 0, .iload 1, .bipush 0, .invokevirtual 1700056, .iastore, .aload 0, .getfield 129112198, .bipush 12, .aload 0, .iload 1, .bipush 1, .invokevirtual 1700056, .iastore, .aload 0, .getfield 129112198, .bipush 13, .aload 0, .aload 0, .getfield 124712022, .iload 1, .iaload, .invokevirtual 1688053, .iastore, .aload 0, .bipush 2, .invokevirtual 1666085, .ireturn]]
-- 90: TwoCampsModel.scoreOf(I)I
def aC_90 : List (List aI) := [[.bipush 0, .istore 2, .bipush 0, .istore 3],
  [.iload 3, .aload 0, .getfield 124412008, .if_icmp .ge 6],
  [.aload 0, .getfield 124912030, .iload 3, .iaload, .bipush 1, .if_icmp .ne 5],
  [.aload 0, .getfield 124712022, .iload 3, .iaload, .iload 1, .if_icmp .ne 5],
  [.iload 2, .aload 0, .getfield 124812026, .iload 3, .iaload, .iadd, .istore 2],
  [.iinc 3 1, .goto 1],
  [.iload 2, .aload 0, .aload 0, .iload 1, .iload 1, .invokevirtual 1640054, .bipush 5, .invokevirtual 1644043, .iadd, .aload 0, .bipush 10, .invokevirtual 1648051, .iadd, .ireturn]]
-- 91: TwoCampsModel.plays()V
def aC_91 : List (List aI) := [[.aload 0, .bipush 0, .invokevirtual 1636090, .istore 1, .aload 0, .bipush 1, .invokevirtual 1636090, .istore 2, .aload 0, .iload 1, .iload 2, .if_icmp .le 2],
  [.bipush 0, .goto 5],
  [.iload 2, .iload 1, .if_icmp .le 4],
  [.bipush 1, .goto 5],
  [.bipush (-1)],
  [.putfield 126212080, .aload 0, .getfield 126212080, .bipush (-1), .if_icmp .eq 7],
  [.aload 0, .getfield 125712062, .aload 0, .getfield 126212080, .aload 0, .getfield 125712062, .aload 0, .getfield 126212080, .iaload, .bipush 1, .iadd, .iastore],
  [.return_]]
-- 92: TwoCampsModel.likes()V
def aC_92 : List (List aI) := [[.bipush 0, .istore 1],
  [.iload 1, .aload 0, .getfield 124412008, .if_icmp .ge 10],
  [.bipush 0, .istore 2],
  [.iload 2, .aload 0, .getfield 124412008, .if_icmp .ge 9],
  [.iload 1, .iload 2, .if_icmp .eq 8],
  [.aload 0, .getfield 124912030, .iload 1, .iaload, .bipush 1, .if_icmp .ne 8],
  [.aload 0, .getfield 124912030, .iload 2, .iaload, .bipush 1, .if_icmp .ne 8],
  [.aload 0, .getfield 129412210, .bipush 24, .iload 1, .imul, .iload 2, .iadd, .aload 0, .bipush 0, .iload 1, .iload 2, .invokevirtual 1658087, .iastore],
  [.iinc 2 1, .goto 3],
  [.iinc 1 1, .goto 1],
  [.bipush 0, .istore 1],
  [.iload 1, .aload 0, .getfield 124412008, .if_icmp .ge 26],
  [.bipush 0, .istore 2],
  [.iload 2, .aload 0, .getfield 124412008, .if_icmp .ge 25],
  [.iload 1, .iload 2, .if_icmp .eq 24],
  [.aload 0, .getfield 124912030, .iload 1, .iaload, .ifCond .eq 24],
  [.aload 0, .getfield 124912030, .iload 2, .iaload, .ifCond .ne 18],
  [.goto 24],
  [.aload 0, .getfield 125212042, .bipush 24, .iload 1, .imul, .iload 2, .iadd, .iaload, .i2l, .aload 0, .getfield 129412210, .bipush 24, .iload 1, .imul, .iload 2, .iadd, .iaload, .i2l, .ladd, .lstore 3, .aload 0, .getfield 125212042, .bipush 24, .iload 1, .imul, .iload 2, .iadd, .lload 3, .ldc2_w 30953636555684627611698, .lcmp, .ifCond .le 20],
  [.bipush 50, .goto 23],
  [.lload 3, .ldc2_w 30990530043832046714830, .lcmp, .ifCond .ge 22],
  [.bipush (-50), .goto 23],
  [.lload 3, .l2i],
  [.iastore],
  [.iinc 2 1, .goto 13],
  [.iinc 1 1, .goto 11],
  [.return_]]
-- 93: TwoCampsModel.fights()V
def aC_93 : List (List aI) := [[.aload 0, .bipush 0, .putfield 129612216, .aload 0, .bipush 0, .putfield 129712220, .bipush 0, .istore 1],
  [.iload 1, .bipush 2, .if_icmp .ge 9],
  [.aload 0, .bipush 1, .iload 1, .invokevirtual 1684088, .istore 2, .iload 2, .ifCond .gt 4],
  [.goto 8],
  [.iload 2, .bipush 999, .if_icmp .le 6],
  [.bipush 999, .goto 7],
  [.iload 2],
  [.istore 3, .aload 0, .aload 0, .getfield 129612216, .bipush 1, .iload 1, .ishl, .ior, .putfield 129612216, .aload 0, .getfield 125512054, .iload 1, .aload 0, .getfield 125512054, .iload 1, .iaload, .bipush 1, .iadd, .iastore, .aload 0, .getfield 125612058, .iload 1, .aload 0, .getfield 125612058, .iload 1, .iaload, .iload 3, .iadd, .iastore, .aload 0, .aload 0, .getfield 129712220, .iload 3, .iadd, .putfield 129712220],
  [.iinc 1 1, .goto 1],
  [.return_]]
-- 94: TwoCampsModel.goHome()V
def aC_94 : List (List aI) := [[.aload 0, .bipush 0, .putfield 129912228, .bipush 0, .istore 1],
  [.iload 1, .aload 0, .getfield 124412008, .if_icmp .ge 7],
  [.aload 0, .getfield 129512214, .iload 1, .aload 0, .getfield 124912030, .iload 1, .iaload, .bipush 1, .if_icmp .ne 5],
  [.aload 0, .iload 1, .invokevirtual 1696089, .ifCond .le 5],
  [.bipush 1, .goto 6],
  [.bipush 0],
  [.bastore, .iinc 1 1, .goto 1],
  [.bipush 0, .istore 1],
  [.iload 1, .aload 0, .getfield 124412008, .if_icmp .ge 13],
  [.aload 0, .getfield 129512214, .iload 1, .baload, .ifCond .ne 11],
  [.goto 12],
  [.aload 0, .getfield 124912030, .iload 1, .bipush 0, .iastore, .aload 0, .aload 0, .getfield 129912228, .bipush 1, .iadd, .putfield 129912228],
  [.iinc 1 1, .goto 8],
  [.return_]]
-- 95: TwoCampsModel.names()V
def aC_95 : List (List aI) := [[.aload 0, .bipush 0, .putfield 129812224, .bipush 0, .istore 1],
  [.iload 1, .bipush 2, .if_icmp .ge 7],
  [.aload 0, .getfield 125412050, .iload 1, .iaload, .ifCond .ne 6],
  [.aload 0, .bipush 3, .iload 1, .invokevirtual 1684088, .ifCond .gt 5],
  [.goto 6],
  [.aload 0, .getfield 125412050, .iload 1, .aload 0, .getfield 124512012, .bipush 1, .iadd, .iastore, .aload 0, .aload 0, .getfield 129812224, .bipush 1, .iadd, .putfield 129812224],
  [.iinc 1 1, .goto 1],
  [.return_]]
-- 96: TwoCampsModel.findsFriends(I)V
def aC_96 : List (List aI) := [[.bipush 0, .istore 2],
  [.iload 2, .aload 0, .getfield 124412008, .if_icmp .ge 10],
  [.iload 2, .iload 1, .if_icmp .eq 9],
  [.aload 0, .getfield 124912030, .iload 2, .iaload, .ifCond .ne 5],
  [.goto 9],
  [.aload 0, .bipush 5, .iload 1, .iload 2, .invokevirtual 1658087, .istore 3, .aload 0, .getfield 130012234, .iload 2, .aload 0, .getfield 129312205, .ifCond .eq 7],
  [.iload 3, .goto 8],
  [.aload 0, .getfield 125212042, .bipush 24, .iload 1, .imul, .iload 2, .iadd, .iaload],
  [.iastore],
  [.iinc 2 1, .goto 1],
  [.bipush 0, .istore 2],
  [.iload 2, .bipush 3, .if_icmp .ge 27],
  [.bipush (-1), .istore 3, .bipush 0, .istore 4],
  [.iload 4, .aload 0, .getfield 124412008, .if_icmp .ge 26],
  [.aload 0, .getfield 124912030, .iload 1, .iaload, .bipush 1, .if_icmp .ne 26],
  [.iload 4, .iload 1, .if_icmp .eq 25],
  [.aload 0, .getfield 124912030, .iload 4, .iaload, .ifCond .eq 25],
  [.iload 2, .ifCond .le 19],
  [.aload 0, .getfield 130112238, .bipush 0, .iaload, .iload 4, .if_icmp .eq 25],
  [.iload 2, .bipush 1, .if_icmp .le 22],
  [.aload 0, .getfield 130112238, .bipush 1, .iaload, .iload 4, .if_icmp .ne 22],
  [.goto 25],
  [.iload 3, .bipush (-1), .if_icmp .eq 24],
  [.aload 0, .getfield 130012234, .iload 4, .iaload, .aload 0, .getfield 130012234, .iload 3, .iaload, .if_icmp .le 25],
  [.iload 4, .istore 3],
  [.iinc 4 1, .goto 13],
  [.aload 0, .getfield 130112238, .iload 2, .iload 3, .iastore, .iinc 2 1, .goto 11],
  [.return_]]
-- 97: TwoCampsModel.friendsAcross(I)I
def aC_97 : List (List aI) := [[.aload 0, .iload 1, .invokevirtual 1716096, .bipush 0, .istore 2, .bipush 0, .istore 3],
  [.iload 3, .bipush 3, .if_icmp .ge 6],
  [.aload 0, .getfield 130112238, .iload 3, .iaload, .bipush (-1), .if_icmp .eq 5],
  [.aload 0, .getfield 124712022, .aload 0, .getfield 130112238, .iload 3, .iaload, .iaload, .aload 0, .getfield 124712022, .iload 1, .iaload, .if_icmp .eq 5],
  [.iload 2, .bipush 1, .iadd, .istore 2],
  [.iinc 3 1, .goto 1],
  [.iload 2, .ireturn]]
-- 98: TwoCampsModel.isFriend(II)Z
def aC_98 : List (List aI) := [[.aload 0, .iload 1, .invokevirtual 1716096, .aload 0, .getfield 130112238, .bipush 0, .iaload, .iload 2, .if_icmp .eq 3],
  [.aload 0, .getfield 130112238, .bipush 1, .iaload, .iload 2, .if_icmp .eq 3],
  [.aload 0, .getfield 130112238, .bipush 2, .iaload, .iload 2, .if_icmp .ne 4],
  [.bipush 1, .goto 5],
  [.bipush 0],
  [.ireturn]]
-- 99: TwoCampsModel.stayLoyal()V
def aC_99 : List (List aI) := [[.bipush 0, .istore 1],
  [.iload 1, .aload 0, .getfield 124412008, .if_icmp .ge 7],
  [.aload 0, .getfield 124912030, .iload 1, .iaload, .bipush 1, .if_icmp .ne 6],
  [.aload 0, .getfield 125012034, .iload 1, .iaload, .bipush 1, .if_icmp .ne 6],
  [.aload 0, .iload 1, .invokevirtual 1712097, .ifCond .ne 6],
  [.aload 0, .getfield 125012034, .iload 1, .bipush 0, .iastore],
  [.iinc 1 1, .goto 1],
  [.return_]]
-- 100: TwoCampsModel.keeps()V
def aC_100 : List (List aI) := [[.aload 0, .getfield 124512012, .bipush 60, .if_icmp .lt 2],
  [.return_],
  [.bipush 8, .aload 0, .getfield 124512012, .imul, .istore 1, .aload 0, .getfield 126412090, .iload 1, .aload 0, .bipush 0, .bipush 0, .invokevirtual 1640054, .iastore, .aload 0, .getfield 126412090, .iload 1, .bipush 1, .iadd, .aload 0, .bipush 1, .bipush 1, .invokevirtual 1640054, .iastore, .aload 0, .getfield 126412090, .iload 1, .bipush 2, .iadd, .aload 0, .bipush 0, .bipush 1, .invokevirtual 1640054, .iastore, .aload 0, .getfield 126412090, .iload 1, .bipush 3, .iadd, .aload 0, .bipush 1, .bipush 0, .invokevirtual 1640054, .iastore, .aload 0, .getfield 126412090, .iload 1, .bipush 4, .iadd, .aload 0, .getfield 126212080, .iastore, .aload 0, .getfield 126412090, .iload 1, .bipush 5, .iadd, .aload 0, .getfield 129612216, .iastore, .aload 0, .getfield 126412090, .iload 1, .bipush 6, .iadd, .aload 0, .bipush 0, .invokevirtual 1688053, .aload 0, .bipush 1, .invokevirtual 1688053, .iadd, .iastore, .aload 0, .getfield 126412090, .iload 1, .bipush 7, .iadd, .aload 0, .getfield 125912068, .iastore, .return_]]
-- 101: TwoCampsModel.goesBy(III)V
def aC_101 : List (List aI) := [[.aload 0, .iload 1, .putfield 125912068, .aload 0, .iload 2, .putfield 126012072, .aload 0, .aload 0, .getfield 124512012, .putfield 126112076, .aload 0, .bipush (-1), .putfield 126212080, .aload 0, .iload 3, .putfield 126312084, .iload 3, .bipush (-1), .if_icmp .eq 2],
  [.aload 0, .getfield 125812066, .iload 3, .aload 0, .getfield 125812066, .iload 3, .iaload, .bipush 1, .iadd, .iastore],
  [.iload 1, .bipush 1, .if_icmp .ne 4],
  [.aload 0, .invokevirtual 1632091],
  [.aload 0, .invokevirtual 1654092, .aload 0, .invokevirtual 1680093, .aload 0, .invokevirtual 1692094, .aload 0, .invokevirtual 1704095, .aload 0, .invokevirtual 1708099, .aload 0, .invokevirtual 1720100, .aload 0, .aload 0, .getfield 124512012, .bipush 1, .iadd, .putfield 124512012, .return_]]
-- 102: TwoCampsModel.fightersNow()I
def aC_102 : List (List aI) := [[.aload 0, .getfield 129612216, .bipush 1, .iand, .aload 0, .getfield 129612216, .bipush 1, .ishr, .iadd, .ireturn]]
-- 103: TwoCampsModel.force(I)I
def aC_103 : List (List aI) := [[.aload 0, .bipush 0, .putfield 124212000, .aload 0, .iload 1, .bipush 0, .bipush 3, .invokevirtual 1492042, .ifCond .ne 2],
  [.bipush (-1), .ireturn],
  [.aload 0, .getfield 124612016, .istore 2, .aload 0, .iload 1, .putfield 124612016, .iload 2, .ireturn]]
-- 104: TwoCampsModel.day(III)I
def aC_104 : List (List aI) := [[.aload 0, .bipush 0, .putfield 124212000, .aload 0, .iload 1, .bipush 0, .bipush 3, .invokevirtual 1492042, .ifCond .eq 7],
  [.aload 0, .iload 2, .bipush 0, .iload 1, .bipush 1, .if_icmp .ne 3],
  [.bipush 9, .goto 4],
  [.bipush 0],
  [.invokevirtual 1492042, .ifCond .eq 7],
  [.aload 0, .iload 3, .bipush (-1), .bipush 1, .invokevirtual 1492042, .ifCond .eq 7],
  [.aload 0, .getfield 124512012, .bipush 60, .if_icmp .ne 8],
  [.bipush (-1), .ireturn],
  [.aload 0, .iload 1, .iload 2, .iload 3, .invokevirtual 1628101, .aload 0, .invokevirtual 1724102, .ireturn]]
-- 105: TwoCampsModel.leads(IZ)V
def aC_105 : List (List aI) := [[.bipush (-1), .istore 3, .aload 0, .bipush 0, .putfield 130212240, .aload 0, .bipush 0, .putfield 130312244, .aload 0, .bipush 0, .putfield 130412248, .aload 0, .bipush 0, .putfield 130512252, .aload 0, .bipush (-1), .putfield 130612256, .aload 0, .bipush 0, .putfield 130712260, .aload 0, .bipush 0, .putfield 130812264, .bipush 24, .iload 1, .imul, .istore 4],
  [.iload 4, .bipush 24, .iload 1, .imul, .aload 0, .getfield 128812186, .iload 1, .iaload, .iadd, .if_icmp .ge 13],
  [.aload 0, .getfield 128912190, .iload 4, .iaload, .bipush 10, .if_icmp .ne 5],
  [.iload 2, .ifCond .eq 12],
  [.aload 0, .getfield 129012194, .iload 4, .iaload, .istore 3, .goto 12],
  [.aload 0, .getfield 124512012, .bipush 60, .if_icmp .ne 7],
  [.return_],
  [.aload 0, .aload 0, .getfield 128912190, .iload 4, .iaload, .bipush 6, .isub, .aload 0, .getfield 129012194, .iload 4, .iaload, .iload 3, .invokevirtual 1628101, .bipush (-1), .istore 3, .aload 0, .aload 0, .getfield 130212240, .bipush 1, .iadd, .putfield 130212240, .aload 0, .aload 0, .getfield 130312244, .aload 0, .invokevirtual 1724102, .iadd, .putfield 130312244, .aload 0, .aload 0, .getfield 130412248, .aload 0, .getfield 129712220, .iadd, .putfield 130412248, .aload 0, .aload 0, .getfield 130512252, .aload 0, .getfield 129912228, .iadd, .putfield 130512252, .aload 0, .aload 0, .getfield 130712260, .aload 0, .getfield 129812224, .iadd, .putfield 130712260, .aload 0, .getfield 130612256, .bipush (-1), .if_icmp .ne 10],
  [.aload 0, .getfield 129612216, .ifCond .eq 10],
  [.aload 0, .aload 0, .getfield 130212240, .putfield 130612256],
  [.aload 0, .getfield 131612298, .aload 0, .getfield 130212240, .bipush 1, .isub, .baload, .ifCond .eq 12],
  [.aload 0, .aload 0, .getfield 130812264, .aload 0, .aload 0, .invokevirtual 1736055, .aload 0, .getfield 131712302, .aload 0, .getfield 130212240, .bipush 1, .isub, .iaload, .isub, .invokevirtual 1740044, .iadd, .putfield 130812264],
  [.iinc 4 1, .goto 1],
  [.return_]]
-- 106: TwoCampsModel.plan(I)I
def aC_106 : List (List aI) := [[.aload 0, .bipush 0, .putfield 124212000, .aload 0, .iload 1, .bipush 0, .bipush 3, .invokevirtual 1492042, .ifCond .ne 2],
  [.bipush (-1), .ireturn],
  [.aload 0, .iload 1, .bipush 1, .invokevirtual 1732105, .aload 0, .getfield 130212240, .ireturn]]
-- 107: TwoCampsModel.putAside(I)I
def aC_107 : List (List aI) := [[.aload 0, .aload 0, .getfield 131012272, .bipush 1, .iadd, .putfield 131012272, .aload 0, .getfield 131112277, .ifCond .ne 2],
  [.aload 0, .getfield 130912270, .aload 0, .getfield 131012272, .bipush 1, .isub, .iaload, .ireturn],
  [.aload 0, .getfield 130912270, .aload 0, .getfield 131012272, .bipush 1, .isub, .iload 1, .iastore, .iload 1, .ireturn]]
-- 108: TwoCampsModel.asides(Z)V
def aC_108 : List (List aI) := [[.aload 0, .iload 1, .putfield 131112277, .aload 0, .bipush 0, .putfield 131012272, .aload 0, .aload 0, .aload 0, .getfield 124312004, .invokevirtual 1756107, .putfield 124312004, .aload 0, .aload 0, .aload 0, .getfield 124512012, .invokevirtual 1756107, .putfield 124512012, .aload 0, .aload 0, .aload 0, .getfield 124612016, .invokevirtual 1756107, .putfield 124612016, .aload 0, .aload 0, .aload 0, .getfield 125912068, .invokevirtual 1756107, .putfield 125912068, .aload 0, .aload 0, .aload 0, .getfield 126012072, .invokevirtual 1756107, .putfield 126012072, .aload 0, .aload 0, .aload 0, .getfield 126112076, .invokevirtual 1756107, .putfield 126112076, .aload 0, .aload 0, .aload 0, .getfield 126212080, .invokevirtual 1756107, .putfield 126212080, .aload 0, .aload 0, .aload 0, .getfield 126312084, .invokevirtual 1756107, .putfield 126312084, .bipush 0, .istore 2],
  [.iload 2, .bipush 2, .if_icmp .ge 3],
  [.aload 0, .getfield 125412050, .iload 2, .aload 0, .aload 0, .getfield 125412050, .iload 2, .iaload, .invokevirtual 1756107, .iastore, .aload 0, .getfield 125512054, .iload 2, .aload 0, .aload 0, .getfield 125512054, .iload 2, .iaload, .invokevirtual 1756107, .iastore, .aload 0, .getfield 125612058, .iload 2, .aload 0, .aload 0, .getfield 125612058, .iload 2, .iaload, .invokevirtual 1756107, .iastore, .aload 0, .getfield 125712062, .iload 2, .aload 0, .aload 0, .getfield 125712062, .iload 2, .iaload, .invokevirtual 1756107, .iastore, .aload 0, .getfield 125812066, .iload 2, .aload 0, .aload 0, .getfield 125812066, .iload 2, .iaload, .invokevirtual 1756107, .iastore, .iinc 2 1, .goto 1],
  [.bipush 0, .istore 2],
  [.iload 2, .bipush 24, .if_icmp .ge 6],
  [.aload 0, .getfield 124912030, .iload 2, .aload 0, .aload 0, .getfield 124912030, .iload 2, .iaload, .invokevirtual 1756107, .iastore, .aload 0, .getfield 125012034, .iload 2, .aload 0, .aload 0, .getfield 125012034, .iload 2, .iaload, .invokevirtual 1756107, .iastore, .iinc 2 1, .goto 4],
  [.bipush 0, .istore 2],
  [.iload 2, .bipush 576, .if_icmp .ge 9],
  [.aload 0, .getfield 125212042, .iload 2, .aload 0, .aload 0, .getfield 125212042, .iload 2, .iaload, .invokevirtual 1756107, .iastore, .iinc 2 1, .goto 7],
  [.bipush 0, .istore 2],
  [.iload 2, .bipush 480, .if_icmp .ge 12],
  [.aload 0, .getfield 126412090, .iload 2, .aload 0, .aload 0, .getfield 126412090, .iload 2, .iaload, .invokevirtual 1756107, .iastore, .iinc 2 1, .goto 10],
  [.return_]]
-- 109: TwoCampsModel.isLaw(I)Z
def aC_109 : List (List aI) := [[.aload 0, .iload 1, .bipush 0, .bipush 3, .invokevirtual 1492042, .ireturn]]
-- 110: TwoCampsModel.led(IIZI)I
def aC_110 : List (List aI) := [[.aload 0, .bipush 0, .putfield 124212000, .aload 0, .iload 1, .invokevirtual 1748109, .ifCond .eq 3],
  [.aload 0, .iload 2, .invokevirtual 1748109, .ifCond .eq 3],
  [.aload 0, .iload 4, .bipush 0, .bipush 6, .invokevirtual 1492042, .ifCond .ne 4],
  [.bipush (-100), .ireturn],
  [.aload 0, .bipush 1, .invokevirtual 1752108, .aload 0, .iload 2, .putfield 124612016, .aload 0, .iload 1, .iload 3, .invokevirtual 1732105, .aload 0, .invokevirtual 1736055, .istore 5, .aload 0, .bipush 0, .invokevirtual 1752108, .iload 4, .ifCond .ne 6],
  [.aload 0, .getfield 130312244, .ireturn],
  [.iload 4, .bipush 1, .if_icmp .ne 8],
  [.aload 0, .getfield 130412248, .ireturn],
  [.iload 4, .bipush 2, .if_icmp .ne 10],
  [.iload 5, .ireturn],
  [.iload 4, .bipush 3, .if_icmp .ne 12],
  [.aload 0, .getfield 130512252, .ireturn],
  [.iload 4, .bipush 4, .if_icmp .ne 14],
  [.aload 0, .getfield 130612256, .ireturn],
  [.iload 4, .bipush 5, .if_icmp .ne 16],
  [.aload 0, .getfield 130712260, .goto 17],
  [.aload 0, .getfield 130212240],
  [.ireturn]]
-- 111: TwoCampsModel.least(II)I
def aC_111 : List (List aI) := [[.aload 0, .bipush 0, .putfield 124212000, .aload 0, .iload 1, .invokevirtual 1748109, .ifCond .eq 2],
  [.aload 0, .iload 2, .bipush 0, .bipush 9, .invokevirtual 1492042, .ifCond .ne 3],
  [.bipush (-1), .ireturn],
  [.aload 0, .bipush 1, .invokevirtual 1752108, .aload 0, .iload 1, .putfield 124612016, .bipush 0, .istore 3],
  [.iload 3, .iload 2, .if_icmp .ge 6],
  [.aload 0, .bipush 0, .bipush 0, .bipush (-1), .invokevirtual 1628101, .iinc 3 1, .goto 4],
  [.bipush (-1), .istore 3, .bipush 1, .istore 4],
  [.iload 4, .bipush 20, .if_icmp .gt 12],
  [.iload 3, .bipush (-1), .if_icmp .ne 12],
  [.aload 0, .bipush 1, .bipush 5, .bipush (-1), .invokevirtual 1628101, .aload 0, .getfield 129612216, .ifCond .eq 11],
  [.iload 4, .istore 3],
  [.iinc 4 1, .goto 7],
  [.aload 0, .bipush 0, .invokevirtual 1752108, .iload 3, .ireturn]]
-- 112: TwoCampsModel.back(I)I
def aC_112 : List (List aI) := [[.aload 0, .bipush 0, .putfield 124212000, .aload 0, .iload 1, .invokevirtual 1748109, .ifCond .ne 2],
  [.bipush (-1), .ireturn],
  [.aload 0, .bipush 1, .invokevirtual 1752108, .aload 0, .iload 1, .putfield 124612016, .bipush 0, .istore 2],
  [.iload 2, .bipush 30, .if_icmp .ge 6],
  [.aload 0, .invokevirtual 1736055, .ifCond .ge 6],
  [.aload 0, .bipush 3, .bipush 0, .bipush (-1), .invokevirtual 1628101, .iload 2, .bipush 1, .iadd, .istore 2, .goto 3],
  [.aload 0, .invokevirtual 1736055, .ifCond .lt 8],
  [.bipush 1, .goto 9],
  [.bipush 0],
  [.istore 3, .aload 0, .bipush 0, .invokevirtual 1752108, .iload 3, .ifCond .eq 11],
  [.iload 2, .goto 12],
  [.bipush (-1)],
  [.ireturn]]
-- 113: TwoCampsModel.row(I)I
def aC_113 : List (List aI) := [[.aload 0, .bipush 0, .putfield 124212000, .iload 1, .bipush (-1), .if_icmp .ne 2],
  [.aload 0, .bipush 0, .putfield 131312284, .bipush 0, .ireturn],
  [.aload 0, .iload 1, .bipush 0, .bipush 3, .invokevirtual 1492042, .ifCond .eq 4],
  [.aload 0, .getfield 131312284, .bipush 5, .if_icmp .ne 5],
  [.bipush (-2), .ireturn],
  [.aload 0, .getfield 131212282, .aload 0, .getfield 131312284, .iload 1, .iastore, .aload 0, .aload 0, .getfield 131312284, .bipush 1, .iadd, .putfield 131312284, .aload 0, .getfield 131312284, .ireturn]]
-- 114: TwoCampsModel.crossBy(I)I
def aC_114 : List (List aI) := [[.aload 0, .bipush 1, .invokevirtual 1752108, .aload 0, .iload 1, .putfield 124612016, .bipush 0, .istore 2],
  [.iload 2, .aload 0, .getfield 131312284, .if_icmp .ge 6],
  [.aload 0, .aload 0, .getfield 131212282, .aload 0, .getfield 131412290, .iload 2, .iaload, .iaload, .aload 0, .getfield 131212282, .aload 0, .getfield 131412290, .iload 2, .iaload, .iaload, .bipush 1, .if_icmp .ne 4],
  [.bipush 5, .goto 5],
  [.bipush 0],
  [.bipush (-1), .invokevirtual 1628101, .iinc 2 1, .goto 1],
  [.aload 0, .invokevirtual 1736055, .istore 2, .aload 0, .bipush 0, .invokevirtual 1752108, .iload 2, .ireturn]]
-- 115: TwoCampsModel.goesOn()Z
def aC_115 : List (List aI) := [[.aload 0, .getfield 131312284, .bipush 2, .isub, .istore 1],
  [.iload 1, .ifCond .lt 4],
  [.aload 0, .getfield 131412290, .iload 1, .iaload, .aload 0, .getfield 131412290, .iload 1, .bipush 1, .iadd, .iaload, .if_icmp .le 4],
  [.iload 1, .bipush 1, .isub, .istore 1, .goto 1],
  [.iload 1, .ifCond .ge 6],
  [.bipush 0, .ireturn],
  [.aload 0, .getfield 131312284, .bipush 1, .isub, .istore 2],
  [.aload 0, .getfield 131412290, .iload 2, .iaload, .aload 0, .getfield 131412290, .iload 1, .iaload, .if_icmp .ge 9],
  [.iload 2, .bipush 1, .isub, .istore 2, .goto 7],
  [.aload 0, .getfield 131412290, .iload 1, .iaload, .istore 3, .aload 0, .getfield 131412290, .iload 1, .aload 0, .getfield 131412290, .iload 2, .iaload, .iastore, .aload 0, .getfield 131412290, .iload 2, .iload 3, .iastore, .iload 1, .bipush 1, .iadd, .istore 4, .aload 0, .getfield 131312284, .bipush 1, .isub, .istore 5],
  [.iload 4, .iload 5, .if_icmp .ge 12],
  [.aload 0, .getfield 131412290, .iload 4, .iaload, .istore 3, .aload 0, .getfield 131412290, .iload 4, .aload 0, .getfield 131412290, .iload 5, .iaload, .iastore, .aload 0, .getfield 131412290, .iload 5, .iload 3, .iastore, .iload 4, .bipush 1, .iadd, .istore 4, .iload 5, .bipush 1, .isub, .istore 5, .goto 10],
  [.bipush 1, .ireturn]]
-- 116: TwoCampsModel.parts(III)I
def aC_116 : List (List aI) := [[.aload 0, .bipush 0, .putfield 124212000, .aload 0, .iload 1, .invokevirtual 1748109, .ifCond .eq 3],
  [.aload 0, .iload 2, .invokevirtual 1748109, .ifCond .eq 3],
  [.aload 0, .iload 3, .bipush 0, .aload 0, .getfield 131312284, .invokevirtual 1492042, .ifCond .ne 4],
  [.bipush (-1), .ireturn],
  [.bipush 0, .istore 4],
  [.iload 4, .aload 0, .getfield 131312284, .if_icmp .ge 7],
  [.aload 0, .getfield 131412290, .iload 4, .iload 4, .iastore, .iinc 4 1, .goto 5],
  [.bipush (-1), .istore 4, .bipush 1, .istore 5],
  [.iload 5, .ifCond .eq 14],
  [.aload 0, .aload 0, .iload 1, .invokevirtual 1776114, .aload 0, .iload 2, .invokevirtual 1776114, .isub, .invokevirtual 1740044, .istore 6, .iload 6, .iload 4, .if_icmp .le 13],
  [.iload 6, .istore 4, .bipush 0, .istore 7],
  [.iload 7, .aload 0, .getfield 131312284, .if_icmp .ge 13],
  [.aload 0, .getfield 131512294, .iload 7, .aload 0, .getfield 131412290, .iload 7, .iaload, .iastore, .iinc 7 1, .goto 11],
  [.aload 0, .invokevirtual 1780115, .istore 5, .goto 8],
  [.iload 3, .ifCond .ne 16],
  [.iload 4, .goto 17],
  [.aload 0, .getfield 131512294, .iload 3, .bipush 1, .isub, .iaload],
  [.ireturn]]
-- 117: TwoCampsModel.told(II)Z
def aC_117 : List (List aI) := [[.aload 0, .bipush 0, .putfield 124212000, .aload 0, .iload 1, .bipush 1, .bipush 24, .invokevirtual 1492042, .ifCond .eq 3],
  [.iload 2, .bipush (-100), .if_icmp .eq 4],
  [.aload 0, .iload 2, .bipush (-50), .bipush 50, .invokevirtual 1492042, .ifCond .ne 4],
  [.bipush 0, .ireturn],
  [.aload 0, .getfield 131612298, .iload 1, .bipush 1, .isub, .iload 2, .bipush (-100), .if_icmp .eq 6],
  [.bipush 1, .goto 7],
  [.bipush 0],
  [.bastore, .aload 0, .getfield 131712302, .iload 1, .bipush 1, .isub, .iload 2, .iastore, .bipush 1, .ireturn]]
-- 118: TwoCampsModel.offBy(II)I
def aC_118 : List (List aI) := [[.aload 0, .bipush 1, .invokevirtual 1752108, .aload 0, .iload 2, .putfield 124612016, .aload 0, .iload 1, .bipush 1, .invokevirtual 1732105, .aload 0, .bipush 0, .invokevirtual 1752108, .aload 0, .getfield 130812264, .ireturn]]
-- 119: TwoCampsModel.off(II)I
def aC_119 : List (List aI) := [[.aload 0, .bipush 0, .putfield 124212000, .aload 0, .iload 1, .invokevirtual 1748109, .ifCond .eq 3],
  [.aload 0, .iload 2, .invokevirtual 1748109, .ifCond .eq 3],
  [.aload 0, .iload 1, .iload 2, .invokevirtual 1792118, .goto 4],
  [.bipush (-1)],
  [.ireturn]]
-- 120: TwoCampsModel.fitting(I)I
def aC_120 : List (List aI) := [[.aload 0, .bipush 0, .putfield 124212000, .aload 0, .iload 1, .invokevirtual 1748109, .ifCond .ne 2],
  [.bipush (-1), .ireturn],
  [.bipush 0, .istore 2, .aload 0, .iload 1, .bipush 0, .invokevirtual 1792118, .istore 3, .bipush 1, .istore 4],
  [.iload 4, .bipush 4, .if_icmp .ge 8],
  [.aload 0, .iload 1, .iload 4, .invokevirtual 1792118, .istore 5, .iload 5, .iload 3, .if_icmp .lt 6],
  [.goto 7],
  [.iload 4, .istore 2, .iload 5, .istore 3],
  [.iinc 4 1, .goto 3],
  [.iload 2, .ireturn]]
-- 121: TwoCampsModel.of(II)I
def aC_121 : List (List aI) := [[.aload 0, .bipush 0, .putfield 124212000, .aload 0, .iload 1, .invokevirtual 1500045, .ifCond .ne 2],
  [.bipush (-100), .ireturn],
  [.aload 0, .iload 2, .bipush 100, .bipush 99, .aload 0, .getfield 124412008, .iadd, .invokevirtual 1492042, .ifCond .eq 4],
  [.aload 0, .getfield 125212042, .bipush 24, .iload 1, .imul, .iload 2, .iadd, .bipush 100, .isub, .iaload, .ireturn],
  [.iload 2, .ifCond .ne 6],
  [.aload 0, .getfield 124712022, .iload 1, .iaload, .ireturn],
  [.iload 2, .bipush 1, .if_icmp .ne 8],
  [.aload 0, .getfield 124812026, .iload 1, .iaload, .ireturn],
  [.iload 2, .bipush 2, .if_icmp .ne 10],
  [.aload 0, .getfield 124912030, .iload 1, .iaload, .ireturn],
  [.aload 0, .iload 2, .bipush 3, .bipush 5, .invokevirtual 1492042, .ifCond .eq 12],
  [.aload 0, .iload 1, .invokevirtual 1716096, .aload 0, .getfield 130112238, .iload 2, .bipush 3, .isub, .iaload, .ireturn],
  [.iload 2, .bipush 6, .if_icmp .ne 14],
  [.aload 0, .iload 1, .invokevirtual 1712097, .ireturn],
  [.iload 2, .bipush 7, .if_icmp .ne 16],
  [.aload 0, .getfield 125012034, .iload 1, .iaload, .ireturn],
  [.iload 2, .bipush 8, .if_icmp .ne 25],
  [.bipush 0, .istore 3, .bipush 0, .istore 4],
  [.iload 4, .aload 0, .getfield 124412008, .if_icmp .ge 24],
  [.iload 4, .iload 1, .if_icmp .eq 23],
  [.aload 0, .getfield 124912030, .iload 4, .iaload, .bipush 1, .if_icmp .ne 23],
  [.aload 0, .iload 4, .iload 1, .invokevirtual 1804098, .ifCond .eq 23],
  [.iload 3, .bipush 1, .iadd, .istore 3],
  [.iinc 4 1, .goto 18],
  [.iload 3, .ireturn],
  [.aload 0, .iload 2, .bipush 9, .bipush 11, .invokevirtual 1492042, .ifCond .eq 27],
  [.aload 0, .iload 1, .iload 2, .bipush 9, .isub, .invokevirtual 1700056, .goto 28],
  [.bipush (-100)],
  [.ireturn]]
-- 122: TwoCampsModel.lot(II)I
def aC_122 : List (List aI) := [[.aload 0, .bipush 0, .putfield 124212000, .aload 0, .iload 1, .invokevirtual 1488046, .ifCond .ne 2],
  [.bipush (-100), .ireturn],
  [.iload 2, .ifCond .ne 4],
  [.aload 0, .iload 1, .invokevirtual 1688053, .ireturn],
  [.iload 2, .bipush 1, .if_icmp .ne 6],
  [.aload 0, .iload 1, .iload 1, .invokevirtual 1640054, .ireturn],
  [.iload 2, .bipush 2, .if_icmp .ne 8],
  [.aload 0, .iload 1, .bipush 1, .iload 1, .isub, .invokevirtual 1640054, .ireturn],
  [.iload 2, .bipush 3, .if_icmp .ne 10],
  [.aload 0, .getfield 125412050, .iload 1, .iaload, .ireturn],
  [.iload 2, .bipush 4, .if_icmp .ne 12],
  [.aload 0, .getfield 125512054, .iload 1, .iaload, .ireturn],
  [.iload 2, .bipush 5, .if_icmp .ne 14],
  [.aload 0, .getfield 125612058, .iload 1, .iaload, .ireturn],
  [.iload 2, .bipush 6, .if_icmp .ne 16],
  [.aload 0, .getfield 125712062, .iload 1, .iaload, .ireturn],
  [.iload 2, .bipush 8, .if_icmp .ne 18],
  [.aload 0, .getfield 125812066, .iload 1, .iaload, .ireturn],
  [.iload 2, .bipush 7, .if_icmp .eq 20],
  [.bipush (-100), .ireturn],
  [.bipush 0, .istore 3, .bipush 0, .istore 4],
  [.iload 4, .aload 0, .getfield 124412008, .if_icmp .ge 26],
  [.aload 0, .getfield 124912030, .iload 4, .iaload, .bipush 1, .if_icmp .ne 25],
  [.aload 0, .getfield 124712022, .iload 4, .iaload, .iload 1, .if_icmp .ne 25],
  [.iload 3, .aload 0, .iload 4, .invokevirtual 1712097, .iadd, .istore 3],
  [.iinc 4 1, .goto 21],
  [.iload 3, .ireturn]]
-- 123: TwoCampsModel.kept(II)I
def aC_123 : List (List aI) := [[.aload 0, .bipush 0, .putfield 124212000, .aload 0, .iload 1, .bipush 1, .aload 0, .getfield 124512012, .invokevirtual 1492042, .ifCond .eq 3],
  [.aload 0, .iload 2, .bipush 0, .bipush 7, .invokevirtual 1492042, .ifCond .eq 3],
  [.aload 0, .getfield 126412090, .bipush 8, .iload 1, .bipush 1, .isub, .imul, .iload 2, .iadd, .iaload, .goto 4],
  [.bipush (-100)],
  [.ireturn]]
-- 124: TwoCampsModel.beansOf(III)I
def aC_124 : List (List aI) := [[.iload 3, .i2l, .aload 0, .bipush 4, .iload 1, .iload 2, .invokevirtual 1658087, .i2l, .ladd, .lstore 4, .lload 4, .lconst 0, .lcmp, .ifCond .ge 2],
  [.bipush 0, .goto 5],
  [.lload 4, .ldc2_w 33720648166741060364047, .lcmp, .ifCond .le 4],
  [.bipush 9999, .goto 5],
  [.lload 4, .l2i],
  [.ireturn]]
-- 125: TwoCampsModel.isHere(I)Z
def aC_125 : List (List aI) := [[.aload 0, .iload 1, .invokevirtual 1500045, .ifCond .eq 3],
  [.aload 0, .getfield 124912030, .iload 1, .iaload, .bipush 1, .if_icmp .ne 3],
  [.bipush 1, .goto 4],
  [.bipush 0],
  [.ireturn]]
-- 126: TwoCampsModel.beans(III)I
def aC_126 : List (List aI) := [[.aload 0, .bipush 0, .putfield 124212000, .aload 0, .iload 1, .invokevirtual 1820125, .ifCond .eq 5],
  [.aload 0, .iload 2, .invokevirtual 1820125, .ifCond .eq 5],
  [.iload 1, .iload 2, .if_icmp .eq 5],
  [.aload 0, .iload 3, .bipush 0, .bipush 999, .invokevirtual 1492042, .ifCond .eq 5],
  [.aload 0, .iload 1, .iload 2, .iload 3, .invokevirtual 1824124, .goto 6],
  [.bipush (-1)],
  [.ireturn]]
-- 127: TwoCampsModel.meanSeen(IZ)I
def aC_127 : List (List aI) := [[.bipush 0, .istore 3, .bipush 0, .istore 4, .bipush 0, .istore 5],
  [.iload 5, .aload 0, .getfield 124412008, .if_icmp .ge 15],
  [.bipush 0, .istore 6],
  [.iload 6, .aload 0, .getfield 124412008, .if_icmp .ge 14],
  [.iload 5, .iload 6, .if_icmp .eq 13],
  [.aload 0, .getfield 124912030, .iload 5, .iaload, .ifCond .eq 13],
  [.aload 0, .getfield 124912030, .iload 6, .iaload, .ifCond .eq 13],
  [.aload 0, .getfield 124712022, .iload 5, .iaload, .aload 0, .getfield 124712022, .iload 6, .iaload, .if_icmp .ne 9],
  [.bipush 1, .goto 10],
  [.bipush 0],
  [.iload 2, .if_icmp .eq 12],
  [.goto 13],
  [.iload 3, .aload 0, .iload 5, .iload 6, .iload 1, .invokevirtual 1824124, .iadd, .istore 3, .iload 4, .bipush 1, .iadd, .istore 4],
  [.iinc 6 1, .goto 3],
  [.iinc 5 1, .goto 1],
  [.aload 0, .iload 3, .iload 4, .invokevirtual 1644043, .ireturn]]
-- 128: TwoCampsModel.seen(II)I
def aC_128 : List (List aI) := [[.aload 0, .bipush 0, .putfield 124212000, .aload 0, .iload 1, .bipush 0, .bipush 999, .invokevirtual 1492042, .ifCond .eq 2],
  [.aload 0, .iload 2, .bipush 0, .bipush 2, .invokevirtual 1492042, .ifCond .ne 3],
  [.bipush (-10000), .ireturn],
  [.iload 2, .ifCond .ne 5],
  [.aload 0, .iload 1, .bipush 1, .invokevirtual 1833127, .goto 8],
  [.iload 2, .bipush 1, .if_icmp .ne 7],
  [.aload 0, .iload 1, .bipush 0, .invokevirtual 1833127, .goto 8],
  [.aload 0, .iload 1, .bipush 1, .invokevirtual 1833127, .aload 0, .iload 1, .bipush 0, .invokevirtual 1833127, .isub],
  [.ireturn]]
-- 129: TwoCampsModel.countsWays()V
def aC_129 : List (List aI) := [[.bipush 0, .istore 1],
  [.iload 1, .ldc_w 5330054473836, .if_icmp .ge 3],
  [.aload 0, .getfield 131812306, .iload 1, .bipush 0, .iastore, .iinc 1 1, .goto 1],
  [.aload 0, .getfield 131812306, .bipush 0, .bipush 1, .iastore, .bipush 0, .istore 1, .bipush 0, .istore 2],
  [.iload 2, .aload 0, .getfield 124412008, .if_icmp .ge 14],
  [.aload 0, .getfield 124912030, .iload 2, .iaload, .ifCond .ne 7],
  [.goto 13],
  [.iload 1, .bipush 1, .iadd, .istore 1, .iload 1, .istore 3],
  [.iload 3, .ifCond .le 13],
  [.bipush 2379, .istore 4],
  [.iload 4, .aload 0, .getfield 125112038, .iload 2, .iaload, .if_icmp .lt 12],
  [.aload 0, .getfield 131812306, .bipush 2380, .iload 3, .imul, .iload 4, .iadd, .aload 0, .getfield 131812306, .bipush 2380, .iload 3, .imul, .iload 4, .iadd, .iaload, .aload 0, .getfield 131812306, .bipush 2380, .iload 3, .bipush 1, .isub, .imul, .iload 4, .iadd, .aload 0, .getfield 125112038, .iload 2, .iaload, .isub, .iaload, .iadd, .iastore, .iinc 4 (-1), .goto 10],
  [.iinc 3 (-1), .goto 8],
  [.iinc 2 1, .goto 4],
  [.return_]]
-- 130: TwoCampsModel.cut(I)I
def aC_130 : List (List aI) := [[.aload 0, .bipush 0, .putfield 124212000, .aload 0, .iload 1, .bipush 0, .bipush 2, .invokevirtual 1492042, .ifCond .ne 2],
  [.bipush (-1), .ireturn],
  [.aload 0, .invokevirtual 1841129, .aload 0, .bipush 0, .invokevirtual 1688053, .istore 2, .bipush 0, .istore 3, .bipush 0, .istore 4],
  [.iload 4, .aload 0, .getfield 124412008, .if_icmp .ge 8],
  [.aload 0, .getfield 124912030, .iload 4, .iaload, .bipush 1, .if_icmp .ne 7],
  [.aload 0, .getfield 124712022, .iload 4, .iaload, .ifCond .ne 7],
  [.iload 3, .aload 0, .getfield 125112038, .iload 4, .iaload, .iadd, .istore 3],
  [.iinc 4 1, .goto 3],
  [.bipush 0, .istore 4, .bipush 0, .istore 5, .bipush 0, .istore 6],
  [.iload 6, .bipush 2380, .if_icmp .ge 13],
  [.iload 4, .aload 0, .getfield 131812306, .bipush 2380, .iload 2, .imul, .iload 6, .iadd, .iaload, .iadd, .istore 4, .iload 6, .iload 3, .if_icmp .lt 12],
  [.iload 5, .aload 0, .getfield 131812306, .bipush 2380, .iload 2, .imul, .iload 6, .iadd, .iaload, .iadd, .istore 5],
  [.iinc 6 1, .goto 9],
  [.iload 1, .ifCond .ne 15],
  [.iload 5, .goto 18],
  [.iload 1, .bipush 1, .if_icmp .ne 17],
  [.iload 4, .goto 18],
  [.ldc2_w 34034242815994122732520, .iload 5, .i2l, .lmul, .iload 4, .i2l, .ldiv, .l2i],
  [.ireturn]]
-- 131: TwoCampsModel.woods(II)I
def aC_131 : List (List aI) := [[.aload 0, .bipush 0, .putfield 124212000, .aload 0, .iload 1, .bipush 0, .bipush 9, .invokevirtual 1492042, .ifCond .eq 2],
  [.aload 0, .iload 2, .bipush 2, .ldc_w 7945689597600, .invokevirtual 1492042, .ifCond .ne 3],
  [.bipush (-1), .ireturn],
  [.bipush 1, .istore 3],
  [.iload 3, .bipush 60, .if_icmp .gt 11],
  [.lconst 0, .lstore 4, .lconst 1, .lstore 6, .bipush 0, .istore 8],
  [.iload 8, .iload 1, .if_icmp .gt 8],
  [.lload 4, .lload 6, .ladd, .lstore 4, .lload 6, .iload 3, .iload 8, .isub, .i2l, .lmul, .iload 8, .bipush 1, .iadd, .i2l, .ldiv, .lstore 6, .iinc 8 1, .goto 6],
  [.lload 4, .lconst 1, .iload 3, .lshl, .lconst 1, .lsub, .iload 2, .i2l, .ldiv, .lcmp, .ifCond .gt 10],
  [.iload 3, .ireturn],
  [.iinc 3 1, .goto 4],
  [.bipush (-1), .ireturn]]
-- 132: TwoCampsModel.imaged(I)I
def aC_132 : List (List aI) := [[.aload 0, .aload 0, .getfield 132112316, .bipush 1, .iadd, .putfield 132112316, .aload 0, .getfield 131112277, .ifCond .ne 2],
  [.aload 0, .getfield 132012314, .aload 0, .getfield 132112316, .bipush 1, .isub, .iaload, .ireturn],
  [.aload 0, .getfield 132012314, .aload 0, .getfield 132112316, .bipush 1, .isub, .iload 1, .iastore, .iload 1, .ireturn]]
-- 133: TwoCampsModel.imagesTexts()V
def aC_133 : List (List aI) := [[.bipush 0, .istore 1],
  [.iload 1, .bipush 4, .if_icmp .ge 3],
  [.aload 0, .getfield 127212122, .iload 1, .aload 0, .aload 0, .getfield 127212122, .iload 1, .iaload, .invokevirtual 1859132, .iastore, .aload 0, .getfield 127712142, .iload 1, .aload 0, .aload 0, .getfield 127712142, .iload 1, .iaload, .invokevirtual 1859132, .iastore, .aload 0, .getfield 128812186, .iload 1, .aload 0, .aload 0, .getfield 128812186, .iload 1, .iaload, .invokevirtual 1859132, .iastore, .iinc 1 1, .goto 1],
  [.bipush 0, .istore 1],
  [.iload 1, .bipush 64, .if_icmp .ge 6],
  [.aload 0, .getfield 127312126, .iload 1, .aload 0, .aload 0, .getfield 127312126, .iload 1, .iaload, .invokevirtual 1859132, .iastore, .aload 0, .getfield 127412130, .iload 1, .aload 0, .aload 0, .getfield 127412130, .iload 1, .iaload, .invokevirtual 1859132, .iastore, .aload 0, .getfield 127512134, .iload 1, .aload 0, .aload 0, .getfield 127512134, .iload 1, .iaload, .invokevirtual 1859132, .iastore, .aload 0, .getfield 127612138, .iload 1, .aload 0, .aload 0, .getfield 127612138, .iload 1, .iaload, .invokevirtual 1859132, .iastore, .iinc 1 1, .goto 4],
  [.bipush 0, .istore 1],
  [.iload 1, .bipush 2000, .if_icmp .ge 9],
  [.aload 0, .getfield 127812146, .iload 1, .aload 0, .aload 0, .getfield 127812146, .iload 1, .iaload, .invokevirtual 1859132, .iastore, .aload 0, .getfield 127912150, .iload 1, .aload 0, .aload 0, .getfield 127912150, .iload 1, .iaload, .invokevirtual 1859132, .iastore, .iinc 1 1, .goto 7],
  [.bipush 0, .istore 1],
  [.iload 1, .bipush 96, .if_icmp .ge 12],
  [.aload 0, .getfield 128912190, .iload 1, .aload 0, .aload 0, .getfield 128912190, .iload 1, .iaload, .invokevirtual 1859132, .iastore, .aload 0, .getfield 129012194, .iload 1, .aload 0, .aload 0, .getfield 129012194, .iload 1, .iaload, .invokevirtual 1859132, .iastore, .iinc 1 1, .goto 10],
  [.return_]]
-- 134: TwoCampsModel.imagesBoys()V
def aC_134 : List (List aI) := [[.aload 0, .aload 0, .aload 0, .getfield 124412008, .invokevirtual 1859132, .putfield 124412008, .aload 0, .aload 0, .aload 0, .getfield 131312284, .invokevirtual 1859132, .putfield 131312284, .bipush 0, .istore 1],
  [.iload 1, .bipush 5, .if_icmp .ge 3],
  [.aload 0, .getfield 131212282, .iload 1, .aload 0, .aload 0, .getfield 131212282, .iload 1, .iaload, .invokevirtual 1859132, .iastore, .iinc 1 1, .goto 1],
  [.bipush 0, .istore 1],
  [.iload 1, .bipush 24, .if_icmp .ge 12],
  [.aload 0, .getfield 124712022, .iload 1, .aload 0, .aload 0, .getfield 124712022, .iload 1, .iaload, .invokevirtual 1859132, .iastore, .aload 0, .getfield 124812026, .iload 1, .aload 0, .aload 0, .getfield 124812026, .iload 1, .iaload, .invokevirtual 1859132, .iastore, .aload 0, .getfield 125112038, .iload 1, .aload 0, .aload 0, .getfield 125112038, .iload 1, .iaload, .invokevirtual 1859132, .iastore, .aload 0, .getfield 131612298, .iload 1, .aload 0, .aload 0, .getfield 131612298, .iload 1, .baload, .ifCond .eq 7],
  [.bipush 1, .goto 8],
  [.bipush 0],
  [.invokevirtual 1859132, .bipush 1, .if_icmp .ne 10],
  [.bipush 1, .goto 11],
  [.bipush 0],
  [.bastore, .aload 0, .getfield 131712302, .iload 1, .aload 0, .aload 0, .getfield 131712302, .iload 1, .iaload, .invokevirtual 1859132, .iastore, .iinc 1 1, .goto 4],
  [.bipush 0, .istore 1],
  [.iload 1, .bipush 576, .if_icmp .ge 15],
  [.aload 0, .getfield 125312046, .iload 1, .aload 0, .aload 0, .getfield 125312046, .iload 1, .iaload, .invokevirtual 1859132, .iastore, .iinc 1 1, .goto 13],
  [.return_]]
-- 135: TwoCampsModel.image(Z)Z
def aC_135 : List (List aI) := [[.aload 0, .bipush 0, .putfield 124212000, .iload 1, .ifCond .ne 3],
  [.aload 0, .getfield 131912309, .ifCond .ne 3],
  [.bipush 0, .ireturn],
  [.aload 0, .bipush 1, .putfield 131912309, .iload 1, .ifCond .ne 7],
  [.bipush 0, .istore 2],
  [.iload 2, .bipush 1200, .if_icmp .ge 7],
  [.aload 0, .getfield 130912270, .iload 2, .aload 0, .getfield 132012314, .bipush 7000, .iload 2, .iadd, .iaload, .iastore, .iinc 2 1, .goto 5],
  [.aload 0, .iload 1, .invokevirtual 1752108, .iload 1, .ifCond .eq 11],
  [.bipush 0, .istore 2],
  [.iload 2, .bipush 1200, .if_icmp .ge 11],
  [.aload 0, .getfield 132012314, .bipush 7000, .iload 2, .iadd, .aload 0, .getfield 130912270, .iload 2, .iaload, .iastore, .iinc 2 1, .goto 9],
  [.aload 0, .bipush 0, .putfield 132112316, .aload 0, .invokevirtual 1855133, .aload 0, .invokevirtual 1863134, .bipush 1, .ireturn]]
-- 136: TwoCampsModel.look(I)I
def aC_136 : List (List aI) := [[.aload 0, .bipush 0, .putfield 124212000, .iload 1, .ifCond .ne 2],
  [.aload 0, .getfield 124412008, .ireturn],
  [.iload 1, .bipush 1, .if_icmp .ne 4],
  [.aload 0, .bipush 0, .invokevirtual 1688053, .aload 0, .bipush 1, .invokevirtual 1688053, .iadd, .ireturn],
  [.iload 1, .bipush 2, .if_icmp .ne 6],
  [.aload 0, .getfield 124512012, .ireturn],
  [.iload 1, .bipush 3, .if_icmp .ne 8],
  [.aload 0, .invokevirtual 1736055, .ireturn],
  [.iload 1, .bipush 4, .if_icmp .ne 10],
  [.aload 0, .getfield 124612016, .ireturn],
  [.iload 1, .bipush 5, .if_icmp .ne 12],
  [.aload 0, .getfield 125512054, .bipush 0, .iaload, .aload 0, .getfield 125512054, .bipush 1, .iaload, .iadd, .ireturn],
  [.iload 1, .bipush 7, .if_icmp .ne 14],
  [.aload 0, .getfield 131312284, .ireturn],
  [.iload 1, .bipush 6, .if_icmp .eq 16],
  [.bipush (-100), .ireturn],
  [.bipush 0, .istore 2, .bipush 0, .istore 3],
  [.iload 3, .aload 0, .getfield 124412008, .if_icmp .ge 19],
  [.iload 2, .aload 0, .getfield 125012034, .iload 3, .iaload, .iadd, .istore 2, .iinc 3 1, .goto 17],
  [.iload 2, .ireturn]]
-- 137: TwoCamps$Course.<init>()V
def aC_137 : List (List aI) := [[.aload 0, .invokespecial 455903, .aload 0, .new 45604, .dup, .invokespecial 458164, .putfield 46800002, .return_]]
-- 138: TwoCamps$Course.goBy(LTwoCamps$Wood;LTwoCamps$Law;III)I
def aC_138 : List (List aI) := [[.aload 0, .aload 1, .iload 3, .iload 4, .iload 5, .invokevirtual 866139, .iload 3, .bipush 1, .if_icmp .ne 2],
  [.aload 0, .aload 1, .invokevirtual 875140],
  [.aload 0, .aload 1, .aload 2, .invokevirtual 917141, .aload 0, .aload 1, .aload 2, .bipush 0, .invokevirtual 960143, .aload 0, .aload 1, .aload 2, .bipush 1, .invokevirtual 960143, .aload 0, .aload 1, .aload 2, .invokevirtual 974144, .aload 0, .aload 1, .aload 2, .bipush 0, .invokevirtual 982145, .aload 0, .aload 1, .aload 2, .bipush 1, .invokevirtual 982145, .aload 1, .dup, .getfield 33110016, .bipush 1, .iadd, .putfield 33110016, .aload 1, .getfield 35310044, .invokestatic 990239, .ireturn]]
-- 139: TwoCamps$Course.begin(LTwoCamps$Wood;III)V
def aC_139 : List (List aI) := [[.aload 1, .iload 2, .putfield 33810024, .aload 1, .iload 3, .putfield 34210028, .aload 1, .aload 1, .getfield 33110016, .putfield 34510032, .aload 1, .bipush (-1), .putfield 34810036, .aload 1, .iload 4, .putfield 35210040, .aload 1, .bipush 0, .putfield 35310044, .iload 4, .invokestatic 870032, .ifCond .eq 2],
  [.aload 1, .bipush 8, .iload 4, .bipush 1, .invokevirtual 871235],
  [.return_]]
-- 140: TwoCamps$Course.compete(LTwoCamps$Wood;)V
def aC_140 : List (List aI) := [[.aload 1, .bipush 0, .invokevirtual 879233, .istore 2, .aload 1, .bipush 1, .invokevirtual 879233, .istore 3, .iload 2, .iload 3, .if_icmp .eq 5],
  [.aload 1, .iload 2, .iload 3, .if_icmp .le 3],
  [.bipush 0, .goto 4],
  [.bipush 1],
  [.putfield 34810036, .aload 1, .bipush 6, .aload 1, .getfield 34810036, .bipush 1, .invokevirtual 871235],
  [.return_]]
-- 141: TwoCamps$Course.changeLikes(LTwoCamps$Wood;LTwoCamps$Law;)V
def aC_141 : List (List aI) := [[.bipush 0, .istore 3],
  [.iload 3, .bipush 24, .if_icmp .ge 9],
  [.iload 3, .bipush 1, .iadd, .istore 4],
  [.aload 1, .getfield 32410008, .iload 3, .invokestatic 921037, .ifCond .eq 8],
  [.iload 4, .bipush 24, .if_icmp .ge 8],
  [.aload 1, .getfield 32410008, .iload 4, .invokestatic 921037, .ifCond .eq 7],
  [.aload 0, .aload 1, .aload 2, .iload 3, .iload 4, .invokevirtual 922142, .istore 5, .aload 0, .aload 1, .aload 2, .iload 4, .iload 3, .invokevirtual 922142, .istore 6, .aload 1, .getfield 36410058, .iload 3, .bipush 24, .imul, .iload 4, .iadd, .iload 5, .iastore, .aload 1, .getfield 36410058, .iload 4, .bipush 24, .imul, .iload 3, .iadd, .iload 6, .iastore],
  [.iinc 4 1, .goto 3],
  [.iinc 3 1, .goto 1],
  [.return_]]
-- 142: TwoCamps$Course.changed(LTwoCamps$Wood;LTwoCamps$Law;II)I
def aC_142 : List (List aI) := [[.aload 0, .getfield 46800002, .aload 1, .iload 3, .iload 4, .invokevirtual 926166, .aload 2, .bipush 14, .aload 0, .getfield 46800002, .getfield 46404002, .bipush 0, .invokevirtual 940157, .i2l, .lstore 5, .aload 1, .getfield 36410058, .iload 3, .bipush 24, .imul, .iload 4, .iadd, .iaload, .i2l, .lload 5, .ladd, .bipush (-50), .bipush 50, .invokestatic 951039, .ireturn]]
-- 143: TwoCamps$Course.letFight(LTwoCamps$Wood;LTwoCamps$Law;I)V
def aC_143 : List (List aI) := [[.aload 0, .getfield 46800002, .aload 1, .iload 3, .invokevirtual 964167, .aload 2, .bipush 15, .aload 0, .getfield 46800002, .getfield 46404002, .bipush 0, .invokevirtual 940157, .istore 4, .iload 4, .ifCond .le 2],
  [.aload 1, .dup, .getfield 35310044, .bipush 1, .iload 3, .ishl, .ior, .putfield 35310044, .aload 1, .bipush 4, .iload 3, .bipush 1, .invokevirtual 871235, .aload 1, .bipush 5, .iload 3, .iload 4, .bipush 999, .invokestatic 971907, .invokevirtual 871235],
  [.return_]]
-- 144: TwoCamps$Course.sendHome(LTwoCamps$Wood;LTwoCamps$Law;)V
def aC_144 : List (List aI) := [[.bipush 0, .istore 3, .bipush 0, .istore 4],
  [.iload 4, .bipush 24, .if_icmp .ge 8],
  [.aload 1, .getfield 32410008, .iload 4, .invokestatic 921037, .ifCond .eq 7],
  [.aload 0, .getfield 46800002, .aload 1, .iload 4, .invokevirtual 978168, .iload 3, .aload 2, .bipush 16, .aload 0, .getfield 46800002, .getfield 46404002, .bipush 0, .invokevirtual 940157, .ifCond .le 5],
  [.bipush 1, .iload 4, .ishl, .goto 6],
  [.bipush 0],
  [.ior, .istore 3],
  [.iinc 4 1, .goto 1],
  [.aload 1, .dup, .getfield 32410008, .iload 3, .bipush (-1), .ixor, .iand, .putfield 32410008, .return_]]
-- 145: TwoCamps$Course.giveName(LTwoCamps$Wood;LTwoCamps$Law;I)V
def aC_145 : List (List aI) := [[.aload 0, .getfield 46800002, .aload 1, .iload 3, .invokevirtual 964167, .aload 1, .iload 3, .invokevirtual 986237, .ifCond .ne 3],
  [.aload 2, .bipush 17, .aload 0, .getfield 46800002, .getfield 46404002, .bipush 0, .invokevirtual 940157, .ifCond .le 3],
  [.aload 1, .bipush 3, .iload 3, .aload 1, .getfield 34510032, .bipush 1, .iadd, .invokevirtual 871235],
  [.return_]]
-- 146: TwoCamps$Cut.<init>()V
def aC_146 : List (List aI) := [[.aload 0, .invokespecial 540903, .aload 0, .bipush 13, .bipush 1189, .multianewarray 54105 2, .putfield 54301002, .return_]]
-- 147: TwoCamps$Cut.allWays(LTwoCamps$Wood;)I
def aC_147 : List (List aI) := [[.aload 1, .bipush 0, .invokevirtual 1191227, .istore 2, .iload 2, .aload 1, .bipush 1, .invokevirtual 1191227, .iadd, .istore 3, .lconst 1, .lstore 4, .bipush 0, .istore 6],
  [.iload 6, .iload 2, .if_icmp .ge 3],
  [.lload 4, .iload 3, .iload 6, .isub, .i2l, .lmul, .iload 6, .bipush 1, .iadd, .i2l, .ldiv, .lstore 4, .iinc 6 1, .goto 1],
  [.lload 4, .l2i, .ireturn]]
-- 148: TwoCamps$Cut.asGreat(LTwoCamps$Wood;[II)I
def aC_148 : List (List aI) := [[.aload 1, .bipush 0, .invokevirtual 1191227, .istore 4, .aload 1, .bipush 1, .invokevirtual 1191227, .istore 5, .iload 4, .iload 5, .if_icmp .gt 2],
  [.iload 3, .aload 0, .aload 1, .getfield 32210008, .aload 2, .iload 4, .aload 1, .bipush 0, .invokevirtual 1196226, .aload 2, .invokestatic 1197149, .bipush 1, .isub, .invokevirtual 1201150, .isub, .ireturn],
  [.aload 0, .aload 1, .getfield 32210008, .aload 2, .iload 5, .aload 1, .bipush 1, .invokevirtual 1196226, .aload 2, .invokestatic 1197149, .invokevirtual 1201150, .ireturn]]
-- 149: TwoCamps$Cut.sumOf(I[I)I
def aC_149 : List (List aI) := [[.bipush 0, .istore 2, .bipush 0, .istore 3],
  [.iload 3, .bipush 24, .if_icmp .ge 6],
  [.iload 2, .iload 0, .iload 3, .invokestatic 1200037, .ifCond .eq 4],
  [.aload 1, .iload 3, .iaload, .goto 5],
  [.bipush 0],
  [.iadd, .istore 2, .iinc 3 1, .goto 1],
  [.iload 2, .ireturn]]
-- 150: TwoCamps$Cut.atMost(I[III)I
def aC_150 : List (List aI) := [[.iload 3, .ifCond .lt 4],
  [.iload 3, .bipush 12, .if_icmp .gt 4],
  [.iload 4, .ifCond .lt 4],
  [.iload 4, .bipush 1188, .if_icmp .le 5],
  [.bipush 0, .ireturn],
  [.bipush 0, .istore 5],
  [.iload 5, .iload 3, .if_icmp .gt 8],
  [.aload 0, .getfield 54301002, .iload 5, .aaload, .bipush 0, .invokestatic 1205240, .iinc 5 1, .goto 6],
  [.aload 0, .getfield 54301002, .bipush 0, .aaload, .bipush 0, .bipush 1, .iastore, .bipush 0, .istore 5],
  [.iload 5, .bipush 24, .if_icmp .ge 13],
  [.iload 1, .iload 5, .invokestatic 1200037, .ifCond .eq 12],
  [.aload 0, .aload 2, .iload 5, .iaload, .iload 3, .iload 4, .invokevirtual 1206151],
  [.iinc 5 1, .goto 9],
  [.bipush 0, .istore 5, .bipush 0, .istore 6],
  [.iload 6, .iload 4, .if_icmp .gt 16],
  [.iload 5, .aload 0, .getfield 54301002, .iload 3, .aaload, .iload 6, .iaload, .iadd, .istore 5, .iinc 6 1, .goto 14],
  [.iload 5, .ireturn]]
-- 151: TwoCamps$Cut.addBoy(III)V
def aC_151 : List (List aI) := [[.iload 2, .istore 4],
  [.iload 4, .ifCond .le 6],
  [.iload 3, .istore 5],
  [.iload 5, .iload 1, .if_icmp .lt 5],
  [.aload 0, .getfield 54301002, .iload 4, .aaload, .iload 5, .dup2, .iaload, .aload 0, .getfield 54301002, .iload 4, .bipush 1, .isub, .aaload, .iload 5, .iload 1, .isub, .iaload, .iadd, .iastore, .iinc 5 (-1), .goto 3],
  [.iinc 4 (-1), .goto 1],
  [.return_]]
-- 152: TwoCamps$Law.<init>()V
def aC_152 : List (List aI) := [[.aload 0, .invokespecial 225903, .aload 0, .bipush 16, .newarray .int, .putfield 23002010, .aload 0, .bipush 16, .newarray .int, .putfield 23102014, .aload 0, .bipush 16, .newarray .int, .putfield 23202018, .aload 0, .bipush 16, .newarray .int, .putfield 23302022, .aload 0, .bipush 500, .newarray .int, .putfield 23402026, .aload 0, .bipush 32, .newarray .int, .putfield 23502030, .return_]]
-- 153: TwoCamps$Law.copyFrom(LTwoCamps$Law;)V
def aC_153 : List (List aI) := [[.aload 0, .aload 1, .getfield 22602000, .putfield 22602000, .aload 0, .aload 1, .getfield 22802004, .putfield 22802004, .aload 1, .getfield 23002010, .bipush 0, .aload 0, .getfield 23002010, .bipush 0, .bipush 16, .invokestatic 810902, .aload 1, .getfield 23102014, .bipush 0, .aload 0, .getfield 23102014, .bipush 0, .bipush 16, .invokestatic 810902, .aload 1, .getfield 23202018, .bipush 0, .aload 0, .getfield 23202018, .bipush 0, .bipush 16, .invokestatic 810902, .aload 1, .getfield 23302022, .bipush 0, .aload 0, .getfield 23302022, .bipush 0, .bipush 16, .invokestatic 810902, .aload 1, .getfield 23402026, .bipush 0, .aload 0, .getfield 23402026, .bipush 0, .bipush 500, .invokestatic 810902, .return_]]
-- 154: TwoCamps$Law.clear()V
def aC_154 : List (List aI) := [[.aload 0, .bipush 0, .putfield 22602000, .aload 0, .bipush 0, .putfield 22802004, .return_]]
-- 155: TwoCamps$Law.putStep(I)V
def aC_155 : List (List aI) := [[.aload 0, .getfield 22802004, .ifCond .lt 3],
  [.aload 0, .getfield 22802004, .bipush 500, .if_icmp .ge 3],
  [.aload 0, .getfield 23402026, .aload 0, .getfield 22802004, .iload 1, .iastore, .aload 0, .dup, .getfield 22802004, .bipush 1, .iadd, .putfield 22802004],
  [.return_]]
-- 156: TwoCamps$Law.endLine(III)V
def aC_156 : List (List aI) := [[.aload 0, .getfield 22602000, .ifCond .lt 3],
  [.aload 0, .getfield 22602000, .bipush 16, .if_icmp .ge 3],
  [.aload 0, .getfield 23002010, .aload 0, .getfield 22602000, .iload 1, .iastore, .aload 0, .getfield 23102014, .aload 0, .getfield 22602000, .iload 2, .iastore, .aload 0, .getfield 23202018, .aload 0, .getfield 22602000, .iload 3, .iastore, .aload 0, .getfield 23302022, .aload 0, .getfield 22602000, .aload 0, .getfield 22802004, .iastore, .aload 0, .dup, .getfield 22602000, .bipush 1, .iadd, .putfield 22602000],
  [.return_]]
-- 157: TwoCamps$Law.tells(I[II)I
def aC_157 : List (List aI) := [[.bipush 0, .istore 4],
  [.iload 4, .aload 0, .getfield 22602000, .if_icmp .ge 11],
  [.iload 4, .bipush 16, .if_icmp .ge 11],
  [.aload 0, .getfield 23002010, .iload 4, .iaload, .iload 1, .if_icmp .ne 5],
  [.bipush 1, .goto 6],
  [.bipush 0],
  [.istore 5, .iload 5, .ifCond .eq 10],
  [.aload 0, .getfield 23202018, .iload 4, .iaload, .aload 0, .getfield 23302022, .iload 4, .iaload, .if_icmp .eq 9],
  [.aload 0, .aload 0, .getfield 23202018, .iload 4, .iaload, .aload 0, .getfield 23302022, .iload 4, .iaload, .aload 2, .invokevirtual 944158, .ifCond .eq 10],
  [.aload 0, .aload 0, .getfield 23102014, .iload 4, .iaload, .aload 0, .getfield 23202018, .iload 4, .iaload, .aload 2, .invokevirtual 944158, .ireturn],
  [.iinc 4 1, .goto 1],
  [.iload 3, .ireturn]]
-- 158: TwoCamps$Law.worked(II[I)I
def aC_158 : List (List aI) := [[.bipush 0, .istore 4, .iload 1, .istore 5],
  [.iload 5, .ifCond .lt 18],
  [.iload 5, .iload 2, .if_icmp .ge 18],
  [.iload 5, .bipush 500, .if_icmp .ge 18],
  [.aload 0, .getfield 23402026, .iload 5, .iaload, .istore 6, .iload 6, .bipush 10000, .isub, .istore 7, .iload 6, .ifCond .lt 11],
  [.iload 7, .aload 3, .arraylength, .if_icmp .ge 11],
  [.iload 4, .aload 0, .getfield 23502030, .arraylength, .if_icmp .ge 11],
  [.aload 0, .getfield 23502030, .iload 4, .iload 7, .ifCond .ge 9],
  [.iload 6, .goto 10],
  [.aload 3, .iload 7, .iaload],
  [.iastore, .iinc 4 1, .goto 17],
  [.iload 6, .bipush (-23), .if_icmp .ne 14],
  [.iload 4, .bipush 1, .if_icmp .lt 14],
  [.aload 0, .getfield 23502030, .iload 4, .bipush 1, .isub, .bipush 1, .aload 0, .getfield 23502030, .iload 4, .bipush 1, .isub, .iaload, .isub, .iastore, .goto 17],
  [.iload 6, .ifCond .ge 17],
  [.iload 4, .bipush 2, .if_icmp .lt 17],
  [.iinc 4 (-1), .aload 0, .getfield 23502030, .iload 4, .bipush 1, .isub, .iload 6, .ineg, .aload 0, .getfield 23502030, .iload 4, .bipush 1, .isub, .iaload, .aload 0, .getfield 23502030, .iload 4, .iaload, .invokestatic 948159, .iastore],
  [.iinc 5 1, .goto 1],
  [.iload 4, .ifCond .le 20],
  [.aload 0, .getfield 23502030, .iload 4, .bipush 1, .isub, .iaload, .goto 21],
  [.bipush 0],
  [.ireturn]]
-- 159: TwoCamps$Law.joined(III)I
def aC_159 : List (List aI) := [[.iload 0, .lookupswitch 22 #[((21), 21), ((22), 20), ((42), 3), ((43), 1), ((45), 2), ((47), 4), ((60), 8), ((61), 12), ((62), 16)]],
  [.iload 1, .iload 2, .iadd, .ireturn],
  [.iload 1, .iload 2, .isub, .ireturn],
  [.iload 1, .iload 2, .imul, .ireturn],
  [.iload 2, .ifCond .ne 6],
  [.bipush 0, .goto 7],
  [.iload 1, .iload 2, .idiv],
  [.ireturn],
  [.iload 1, .iload 2, .if_icmp .ge 10],
  [.bipush 1, .goto 11],
  [.bipush 0],
  [.ireturn],
  [.iload 1, .iload 2, .if_icmp .ne 14],
  [.bipush 1, .goto 15],
  [.bipush 0],
  [.ireturn],
  [.iload 1, .iload 2, .if_icmp .le 18],
  [.bipush 1, .goto 19],
  [.bipush 0],
  [.ireturn],
  [.iload 1, .iload 2, .iand, .ireturn],
  [.iload 1, .iload 2, .ior, .ireturn],
  [.bipush 0, .ireturn]]
-- 160: TwoCamps$Plan.<init>()V
def aC_160 : List (List aI) := [[.aload 0, .invokespecial 258903, .aload 0, .bipush (-1), .putfield 26203004, .aload 0, .bipush 24, .newarray .int, .putfield 26403010, .aload 0, .bipush 24, .newarray .int, .putfield 26703014, .aload 0, .bipush 24, .newarray .int, .putfield 27003018, .return_]]
-- 161: TwoCamps$Plan.copyFrom(LTwoCamps$Plan;)V
def aC_161 : List (List aI) := [[.aload 0, .aload 1, .getfield 25903000, .putfield 25903000, .aload 1, .getfield 26403010, .bipush 0, .aload 0, .getfield 26403010, .bipush 0, .bipush 24, .invokestatic 837902, .aload 1, .getfield 26703014, .bipush 0, .aload 0, .getfield 26703014, .bipush 0, .bipush 24, .invokestatic 837902, .aload 1, .getfield 27003018, .bipush 0, .aload 0, .getfield 27003018, .bipush 0, .bipush 24, .invokestatic 837902, .return_]]
-- 162: TwoCamps$Plan.clear()V
def aC_162 : List (List aI) := [[.aload 0, .bipush 0, .putfield 25903000, .aload 0, .bipush (-1), .putfield 26203004, .return_]]
-- 163: TwoCamps$Plan.addDay(II)V
def aC_163 : List (List aI) := [[.aload 0, .getfield 25903000, .ifCond .lt 3],
  [.aload 0, .getfield 25903000, .bipush 24, .if_icmp .ge 3],
  [.aload 0, .getfield 26403010, .aload 0, .getfield 25903000, .iload 1, .iastore, .aload 0, .getfield 26703014, .aload 0, .getfield 25903000, .iload 2, .iastore, .aload 0, .getfield 27003018, .aload 0, .getfield 25903000, .aload 0, .getfield 26203004, .iastore, .aload 0, .dup, .getfield 25903000, .bipush 1, .iadd, .putfield 25903000],
  [.aload 0, .bipush (-1), .putfield 26203004, .return_]]
-- 164: TwoCamps$Question.<init>()V
def aC_164 : List (List aI) := [[.aload 0, .invokespecial 461903, .aload 0, .bipush 14, .newarray .int, .putfield 46204002, .return_]]
-- 165: TwoCamps$Question.askOfDay(LTwoCamps$Wood;I)V
def aC_165 : List (List aI) := [[.aload 0, .getfield 46204002, .bipush 0, .invokestatic 938240, .aload 0, .getfield 46204002, .bipush 0, .aload 1, .getfield 33610024, .iastore, .aload 0, .getfield 46204002, .bipush 1, .aload 1, .getfield 34010028, .iastore, .aload 0, .getfield 46204002, .bipush 2, .aload 1, .getfield 34310032, .iastore, .aload 0, .getfield 46204002, .bipush 5, .aload 1, .getfield 34710036, .iload 2, .if_icmp .ne 2],
  [.bipush 1, .goto 3],
  [.bipush 0],
  [.iastore, .aload 0, .getfield 46204002, .bipush 6, .aload 1, .getfield 34710036, .bipush 1, .iload 2, .isub, .if_icmp .ne 5],
  [.bipush 1, .goto 6],
  [.bipush 0],
  [.iastore, .aload 0, .getfield 46204002, .bipush 7, .aload 1, .getfield 35110040, .iload 2, .if_icmp .ne 8],
  [.bipush 1, .goto 9],
  [.bipush 0],
  [.iastore, .return_]]
-- 166: TwoCamps$Question.askOfCouple(LTwoCamps$Wood;II)V
def aC_166 : List (List aI) := [[.aload 0, .aload 1, .aload 1, .iload 2, .invokevirtual 930225, .invokevirtual 934165, .aload 0, .getfield 46204002, .bipush 3, .aload 1, .iload 2, .invokevirtual 930225, .aload 1, .iload 3, .invokevirtual 930225, .if_icmp .ne 2],
  [.bipush 1, .goto 3],
  [.bipush 0],
  [.iastore, .aload 0, .getfield 46204002, .bipush 4, .aload 1, .getfield 36010054, .iload 2, .iaload, .iload 3, .invokestatic 939037, .ifCond .eq 5],
  [.bipush 1, .goto 6],
  [.bipush 0],
  [.iastore, .aload 0, .getfield 46204002, .bipush 8, .aload 1, .getfield 36310058, .iload 2, .bipush 24, .imul, .iload 3, .iadd, .iaload, .iastore, .aload 0, .getfield 46204002, .bipush 9, .aload 1, .getfield 36310058, .iload 3, .bipush 24, .imul, .iload 2, .iadd, .iaload, .iastore, .aload 0, .getfield 46204002, .bipush 10, .aload 1, .getfield 35710050, .iload 3, .iaload, .iastore, .return_]]
-- 167: TwoCamps$Question.askOfLot(LTwoCamps$Wood;I)V
def aC_167 : List (List aI) := [[.aload 1, .iload 2, .invokevirtual 968226, .istore 3, .aload 0, .aload 1, .iload 2, .invokevirtual 934165, .aload 0, .getfield 46204002, .bipush 11, .aload 1, .iload 3, .iload 3, .invokevirtual 969231, .iastore, .aload 0, .getfield 46204002, .bipush 12, .aload 1, .iload 3, .aload 1, .bipush 1, .iload 2, .isub, .invokevirtual 968226, .invokevirtual 969231, .iastore, .aload 0, .getfield 46204002, .bipush 13, .iload 3, .invokestatic 970239, .iastore, .return_]]
-- 168: TwoCamps$Question.askOfBoy(LTwoCamps$Wood;I)V
def aC_168 : List (List aI) := [[.aload 1, .iload 2, .invokevirtual 930225, .istore 3, .aload 1, .iload 3, .invokevirtual 968226, .istore 4, .aload 0, .aload 1, .iload 3, .invokevirtual 934165, .aload 0, .getfield 46204002, .bipush 11, .aload 1, .iload 4, .bipush 1, .iload 2, .ishl, .invokevirtual 969231, .iastore, .aload 0, .getfield 46204002, .bipush 12, .aload 1, .aload 1, .bipush 1, .iload 3, .isub, .invokevirtual 968226, .bipush 1, .iload 2, .ishl, .invokevirtual 969231, .iastore, .aload 0, .getfield 46204002, .bipush 8, .aload 1, .bipush 1, .iload 2, .ishl, .iload 4, .invokevirtual 969231, .iastore, .aload 0, .getfield 46204002, .bipush 10, .aload 1, .getfield 35710050, .iload 2, .iaload, .iastore, .aload 0, .getfield 46204002, .bipush 13, .iload 4, .invokestatic 970239, .iastore, .return_]]
-- 169: TwoCamps$Reader.<init>(LTwoCamps$Tape;)V
def aC_169 : List (List aI) := [[.aload 0, .invokespecial 219903, .aload 0, .new 22002, .dup, .invokespecial 222152, .putfield 28505006, .aload 0, .new 25303, .dup, .invokespecial 255160, .putfield 28605010, .aload 0, .bipush (-1), .putfield 29005020, .aload 0, .aload 1, .putfield 28405002, .return_]]
-- 170: TwoCamps$Reader.begin()V
def aC_170 : List (List aI) := [[.aload 0, .getfield 28405002, .invokevirtual 633195, .aload 0, .bipush 0, .putfield 28705012, .aload 0, .bipush 0, .putfield 28805016, .aload 0, .bipush (-1), .putfield 29005020, .return_]]
-- 171: TwoCamps$Reader.token()I
def aC_171 : List (List aI) := [[.aload 0, .getfield 28705012, .ifCond .lt 3],
  [.aload 0, .getfield 28705012, .aload 0, .getfield 28405002, .getfield 19207004, .if_icmp .ge 3],
  [.aload 0, .getfield 28405002, .getfield 19507014, .aload 0, .getfield 28705012, .iaload, .goto 4],
  [.bipush 101],
  [.ireturn]]
-- 172: TwoCamps$Reader.value()I
def aC_172 : List (List aI) := [[.aload 0, .getfield 28705012, .ifCond .lt 3],
  [.aload 0, .getfield 28705012, .aload 0, .getfield 28405002, .getfield 19207004, .if_icmp .ge 3],
  [.aload 0, .getfield 28405002, .getfield 19907022, .aload 0, .getfield 28705012, .iaload, .goto 4],
  [.bipush 0],
  [.ireturn]]
-- 173: TwoCamps$Reader.fail(I)Z
def aC_173 : List (List aI) := [[.aload 0, .iload 1, .putfield 28805016, .aload 0, .aload 0, .getfield 28705012, .ifCond .lt 3],
  [.aload 0, .getfield 28705012, .aload 0, .getfield 28405002, .getfield 19207004, .if_icmp .ge 3],
  [.aload 0, .getfield 28405002, .getfield 19707018, .aload 0, .getfield 28705012, .iaload, .goto 4],
  [.aload 0, .getfield 28405002, .getfield 18907000],
  [.putfield 29005020, .bipush 0, .ireturn]]
-- 174: TwoCamps$Reader.readLaw(LTwoCamps$Law;)I
def aC_174 : List (List aI) := [[.aload 0, .getfield 28505006, .invokevirtual 758154, .bipush 0, .istore 2],
  [.iload 2, .bipush 16, .if_icmp .gt 6],
  [.aload 0, .invokevirtual 762171, .bipush 101, .if_icmp .eq 6],
  [.aload 0, .iload 2, .invokevirtual 766175, .ifCond .ne 5],
  [.bipush (-1), .ireturn],
  [.iinc 2 1, .goto 1],
  [.aload 1, .aload 0, .getfield 28505006, .invokevirtual 806153, .aload 0, .getfield 28505006, .getfield 22702000, .ireturn]]
-- 175: TwoCamps$Reader.readLawLine(I)Z
def aC_175 : List (List aI) := [[.aload 0, .invokevirtual 762171, .istore 2, .iload 2, .bipush 14, .if_icmp .lt 2],
  [.iload 2, .bipush 19, .if_icmp .le 3],
  [.aload 0, .bipush 1, .invokevirtual 770173, .ireturn],
  [.iload 1, .bipush 16, .if_icmp .lt 5],
  [.aload 0, .bipush 3, .invokevirtual 770173, .ireturn],
  [.aload 0, .dup, .getfield 28705012, .bipush 1, .iadd, .putfield 28705012, .aload 0, .getfield 28505006, .getfield 22902004, .istore 3, .aload 0, .invokevirtual 774179, .ifCond .ne 7],
  [.bipush 0, .ireturn],
  [.aload 0, .getfield 28505006, .getfield 22902004, .istore 4, .aload 0, .invokevirtual 762171, .bipush 20, .if_icmp .ne 10],
  [.aload 0, .dup, .getfield 28705012, .bipush 1, .iadd, .putfield 28705012, .aload 0, .bipush 0, .invokevirtual 790177, .ifCond .ne 10],
  [.bipush 0, .ireturn],
  [.aload 0, .getfield 28505006, .iload 2, .iload 3, .iload 4, .invokevirtual 802156, .aload 0, .bipush 59, .bipush 59, .invokevirtual 798176, .ireturn]]
-- 176: TwoCamps$Reader.readSign(II)Z
def aC_176 : List (List aI) := [[.aload 0, .invokevirtual 762171, .iload 1, .if_icmp .lt 2],
  [.aload 0, .invokevirtual 762171, .iload 2, .if_icmp .le 3],
  [.aload 0, .bipush 1, .invokevirtual 770173, .ireturn],
  [.aload 0, .dup, .getfield 28705012, .bipush 1, .iadd, .putfield 28705012, .bipush 1, .ireturn]]
-- 177: TwoCamps$Reader.readChoice(I)Z
def aC_177 : List (List aI) := [[.bipush 0, .istore 2, .bipush 102, .istore 3, .bipush 0, .istore 4],
  [.iload 4, .bipush 500, .if_icmp .ge 13],
  [.aload 0, .iload 1, .invokevirtual 794178, .ifCond .ne 4],
  [.bipush 0, .ireturn],
  [.iload 3, .bipush 22, .if_icmp .ne 6],
  [.aload 0, .getfield 28505006, .bipush (-22), .invokevirtual 786155],
  [.aload 0, .invokevirtual 762171, .istore 3, .iload 3, .bipush 22, .if_icmp .eq 12],
  [.iload 2, .ifCond .eq 9],
  [.aload 0, .getfield 28505006, .bipush (-21), .invokevirtual 786155],
  [.iload 3, .bipush 21, .if_icmp .eq 11],
  [.bipush 1, .ireturn],
  [.bipush 1, .istore 2],
  [.aload 0, .dup, .getfield 28705012, .bipush 1, .iadd, .putfield 28705012, .iinc 4 1, .goto 1],
  [.bipush 0, .ireturn]]
-- 178: TwoCamps$Reader.readClaim(I)Z
def aC_178 : List (List aI) := [[.iload 1, .istore 2],
  [.aload 0, .invokevirtual 762171, .bipush 23, .if_icmp .ne 4],
  [.iload 2, .bipush 8, .if_icmp .ge 4],
  [.aload 0, .dup, .getfield 28705012, .bipush 1, .iadd, .putfield 28705012, .iinc 2 1, .goto 1],
  [.aload 0, .invokevirtual 762171, .bipush 40, .if_icmp .ne 6],
  [.bipush 1, .goto 7],
  [.bipush 0],
  [.istore 3, .iload 2, .bipush 8, .if_icmp .lt 11],
  [.iload 3, .ifCond .ne 10],
  [.aload 0, .invokevirtual 762171, .bipush 23, .if_icmp .ne 11],
  [.aload 0, .bipush 3, .invokevirtual 770173, .ireturn],
  [.iload 3, .ifCond .eq 17],
  [.aload 0, .dup, .getfield 28705012, .bipush 1, .iadd, .putfield 28705012, .aload 0, .iload 2, .bipush 1, .iadd, .invokevirtual 790177, .ifCond .eq 15],
  [.aload 0, .bipush 41, .bipush 41, .invokevirtual 798176, .ifCond .eq 15],
  [.bipush 1, .goto 16],
  [.bipush 0],
  [.istore 4, .goto 23],
  [.aload 0, .invokevirtual 774179, .istore 4, .aload 0, .invokevirtual 762171, .istore 5, .iload 4, .ifCond .eq 21],
  [.aload 0, .bipush 60, .bipush 62, .invokevirtual 798176, .ifCond .eq 21],
  [.aload 0, .invokevirtual 774179, .ifCond .eq 21],
  [.bipush 1, .goto 22],
  [.bipush 0],
  [.istore 4, .aload 0, .getfield 28505006, .iload 5, .ineg, .invokevirtual 786155],
  [.iload 2, .iload 1, .isub, .bipush 2, .irem, .bipush 1, .if_icmp .ne 25],
  [.aload 0, .getfield 28505006, .bipush (-23), .invokevirtual 786155],
  [.iload 4, .ireturn]]
-- 179: TwoCamps$Reader.readSum()Z
def aC_179 : List (List aI) := [[.bipush 102, .istore 1, .bipush 102, .istore 2, .bipush 0, .istore 3],
  [.iload 3, .bipush 500, .if_icmp .ge 19],
  [.aload 0, .iload 2, .bipush 47, .if_icmp .ne 4],
  [.bipush 1, .goto 5],
  [.bipush 0],
  [.invokevirtual 778180, .ifCond .ne 7],
  [.bipush 0, .ireturn],
  [.iload 2, .bipush 42, .if_icmp .eq 9],
  [.iload 2, .bipush 47, .if_icmp .ne 10],
  [.aload 0, .getfield 28505006, .iload 2, .ineg, .invokevirtual 786155],
  [.aload 0, .invokevirtual 762171, .istore 2, .iload 2, .bipush 42, .if_icmp .eq 18],
  [.iload 2, .bipush 47, .if_icmp .eq 18],
  [.iload 1, .bipush 102, .if_icmp .eq 14],
  [.aload 0, .getfield 28505006, .iload 1, .ineg, .invokevirtual 786155],
  [.iload 2, .bipush 43, .if_icmp .eq 17],
  [.iload 2, .bipush 45, .if_icmp .eq 17],
  [.bipush 1, .ireturn],
  [.iload 2, .istore 1],
  [.aload 0, .dup, .getfield 28705012, .bipush 1, .iadd, .putfield 28705012, .iinc 3 1, .goto 1],
  [.bipush 0, .ireturn]]
-- 180: TwoCamps$Reader.readUnit(Z)Z
def aC_180 : List (List aI) := [[.aload 0, .invokevirtual 762171, .istore 2, .iload 2, .bipush 100, .if_icmp .ne 5],
  [.iload 1, .ifCond .eq 4],
  [.aload 0, .invokevirtual 782172, .ifCond .ne 4],
  [.aload 0, .bipush 2, .invokevirtual 770173, .ireturn],
  [.aload 0, .getfield 28505006, .aload 0, .invokevirtual 782172, .invokevirtual 786155, .goto 10],
  [.iload 2, .ifCond .lt 9],
  [.iload 2, .bipush 13, .if_icmp .gt 9],
  [.iload 1, .ifCond .ne 9],
  [.aload 0, .getfield 28505006, .bipush 10000, .iload 2, .iadd, .bipush 0, .isub, .invokevirtual 786155, .goto 10],
  [.aload 0, .bipush 1, .invokevirtual 770173, .ireturn],
  [.aload 0, .dup, .getfield 28705012, .bipush 1, .iadd, .putfield 28705012, .bipush 1, .ireturn]]
-- 181: TwoCamps$Reader.readPlan(LTwoCamps$Plan;)I
def aC_181 : List (List aI) := [[.aload 0, .getfield 28605010, .invokevirtual 817162, .bipush 0, .istore 2],
  [.iload 2, .bipush 24, .if_icmp .gt 6],
  [.aload 0, .invokevirtual 762171, .bipush 101, .if_icmp .eq 6],
  [.aload 0, .iload 2, .invokevirtual 821182, .ifCond .ne 5],
  [.bipush (-1), .ireturn],
  [.iinc 2 1, .goto 1],
  [.aload 1, .aload 0, .getfield 28605010, .invokevirtual 833161, .iload 2, .ireturn]]
-- 182: TwoCamps$Reader.readPlanLine(I)Z
def aC_182 : List (List aI) := [[.aload 0, .invokevirtual 762171, .istore 2, .iload 2, .bipush 24, .if_icmp .lt 2],
  [.iload 2, .bipush 28, .if_icmp .le 3],
  [.aload 0, .bipush 1, .invokevirtual 770173, .ireturn],
  [.iload 1, .bipush 24, .if_icmp .lt 5],
  [.aload 0, .bipush 3, .invokevirtual 770173, .ireturn],
  [.aload 0, .dup, .getfield 28705012, .bipush 1, .iadd, .putfield 28705012, .bipush 0, .istore 3, .iload 2, .bipush 25, .if_icmp .eq 7],
  [.iload 2, .bipush 28, .if_icmp .ne 12],
  [.aload 0, .invokevirtual 782172, .istore 3, .aload 0, .iload 2, .bipush 28, .if_icmp .ne 9],
  [.bipush 1, .goto 10],
  [.bipush 9],
  [.invokevirtual 825183, .ifCond .ne 12],
  [.bipush 0, .ireturn],
  [.iload 2, .bipush 28, .if_icmp .ne 14],
  [.aload 0, .getfield 28605010, .iload 3, .putfield 26303004, .goto 15],
  [.aload 0, .getfield 28605010, .iload 2, .bipush 24, .isub, .iload 3, .invokevirtual 829163],
  [.aload 0, .bipush 59, .bipush 59, .invokevirtual 798176, .ireturn]]
-- 183: TwoCamps$Reader.readNumber(I)Z
def aC_183 : List (List aI) := [[.aload 0, .invokevirtual 762171, .bipush 100, .if_icmp .eq 2],
  [.aload 0, .bipush 1, .invokevirtual 770173, .ireturn],
  [.aload 0, .invokevirtual 782172, .iload 1, .if_icmp .le 4],
  [.aload 0, .bipush 2, .invokevirtual 770173, .ireturn],
  [.aload 0, .dup, .getfield 28705012, .bipush 1, .iadd, .putfield 28705012, .bipush 1, .ireturn]]
-- 184: TwoCamps$Slips.<init>()V
def aC_184 : List (List aI) := [[.aload 0, .invokespecial 477903, .aload 0, .new 47804, .dup, .invokespecial 479164, .putfield 48006002, .aload 0, .bipush 3, .newarray .int, .putfield 48106006, .aload 0, .bipush 3, .newarray .int, .putfield 48306010, .return_]]
-- 185: TwoCamps$Slips.find(LTwoCamps$Wood;LTwoCamps$Law;I)V
def aC_185 : List (List aI) := [[.aload 0, .getfield 48106006, .bipush (-1), .invokestatic 1000240, .bipush 0, .istore 4],
  [.aload 1, .getfield 32010008, .iload 3, .invokestatic 995037, .ifCond .eq 7],
  [.iload 4, .bipush 24, .if_icmp .ge 7],
  [.iload 4, .iload 3, .if_icmp .eq 6],
  [.aload 1, .getfield 32010008, .iload 4, .invokestatic 995037, .ifCond .eq 6],
  [.aload 0, .getfield 48006002, .aload 1, .iload 3, .iload 4, .invokevirtual 1001166, .aload 0, .iload 4, .aload 2, .bipush 19, .aload 0, .getfield 48006002, .getfield 46304002, .aload 0, .getfield 48006002, .getfield 46304002, .bipush 8, .iaload, .invokevirtual 1002157, .invokevirtual 1003186],
  [.iinc 4 1, .goto 1],
  [.return_]]
-- 186: TwoCamps$Slips.putIn(II)V
def aC_186 : List (List aI) := [[.bipush 3, .istore 3],
  [.iload 3, .ifCond .le 5],
  [.aload 0, .getfield 48106006, .iload 3, .bipush 1, .isub, .iaload, .bipush (-1), .if_icmp .eq 4],
  [.aload 0, .getfield 48306010, .iload 3, .bipush 1, .isub, .iaload, .iload 2, .if_icmp .ge 5],
  [.iinc 3 (-1), .goto 1],
  [.bipush 2, .istore 4],
  [.iload 4, .iload 3, .if_icmp .le 8],
  [.aload 0, .getfield 48106006, .iload 4, .aload 0, .getfield 48106006, .iload 4, .bipush 1, .isub, .iaload, .iastore, .aload 0, .getfield 48306010, .iload 4, .aload 0, .getfield 48306010, .iload 4, .bipush 1, .isub, .iaload, .iastore, .iinc 4 (-1), .goto 6],
  [.iload 3, .bipush 3, .if_icmp .ge 10],
  [.aload 0, .getfield 48106006, .iload 3, .iload 1, .iastore, .aload 0, .getfield 48306010, .iload 3, .iload 2, .iastore],
  [.return_]]
-- 187: TwoCamps$Slips.across(LTwoCamps$Wood;I)I
def aC_187 : List (List aI) := [[.bipush 0, .istore 3, .bipush 0, .istore 4],
  [.iload 4, .bipush 3, .if_icmp .ge 6],
  [.aload 0, .getfield 48106006, .iload 4, .iaload, .bipush (-1), .if_icmp .eq 5],
  [.aload 1, .aload 0, .getfield 48106006, .iload 4, .iaload, .invokevirtual 1011225, .aload 1, .iload 2, .invokevirtual 1011225, .if_icmp .eq 5],
  [.iinc 3 1],
  [.iinc 4 1, .goto 1],
  [.iload 3, .ireturn]]
-- 188: TwoCamps$Slips.acrossOfLot(LTwoCamps$Wood;LTwoCamps$Law;I)I
def aC_188 : List (List aI) := [[.bipush 0, .istore 4, .bipush 0, .istore 5],
  [.iload 5, .bipush 24, .if_icmp .ge 5],
  [.aload 1, .iload 3, .invokevirtual 1062226, .iload 5, .invokestatic 995037, .ifCond .eq 4],
  [.aload 0, .aload 1, .aload 2, .iload 5, .invokevirtual 996185, .iload 4, .aload 0, .aload 1, .iload 5, .invokevirtual 1007187, .iadd, .istore 4],
  [.iinc 5 1, .goto 1],
  [.iload 4, .ireturn]]
-- 189: TwoCamps$Slips.chosenBy(LTwoCamps$Wood;LTwoCamps$Law;I)I
def aC_189 : List (List aI) := [[.bipush 0, .istore 4, .bipush 0, .istore 5],
  [.iload 5, .bipush 24, .if_icmp .ge 9],
  [.aload 0, .aload 1, .aload 2, .iload 5, .invokevirtual 996185, .bipush 0, .istore 6],
  [.iload 6, .bipush 3, .if_icmp .ge 8],
  [.iload 4, .aload 0, .getfield 48106006, .iload 6, .iaload, .iload 3, .if_icmp .ne 6],
  [.bipush 1, .goto 7],
  [.bipush 0],
  [.iadd, .istore 4, .iinc 6 1, .goto 3],
  [.iinc 5 1, .goto 1],
  [.iload 4, .ireturn]]
-- 190: TwoCamps$Slips.settleLoyal(LTwoCamps$Wood;LTwoCamps$Law;)V
def aC_190 : List (List aI) := [[.bipush 0, .istore 3],
  [.iload 3, .bipush 24, .if_icmp .ge 6],
  [.aload 1, .getfield 32010008, .aload 1, .getfield 32710012, .iand, .iload 3, .invokestatic 995037, .ifCond .eq 5],
  [.aload 0, .aload 1, .aload 2, .iload 3, .invokevirtual 996185, .aload 0, .aload 1, .iload 3, .invokevirtual 1007187, .ifCond .ne 5],
  [.aload 1, .dup, .getfield 32710012, .bipush 1, .iload 3, .ishl, .bipush (-1), .ixor, .iand, .putfield 32710012],
  [.iinc 3 1, .goto 1],
  [.return_]]
-- 191: TwoCamps$Slips.beansSeen(LTwoCamps$Wood;LTwoCamps$Law;III)I
def aC_191 : List (List aI) := [[.aload 0, .getfield 48006002, .aload 1, .iload 3, .iload 4, .invokevirtual 1001166, .aload 2, .bipush 18, .aload 0, .getfield 48006002, .getfield 46304002, .bipush 0, .invokevirtual 1002157, .i2l, .lstore 6, .iload 5, .i2l, .lload 6, .ladd, .bipush 0, .bipush 9999, .invokestatic 1078039, .ireturn]]
-- 192: TwoCamps$Slips.meanSeen(LTwoCamps$Wood;LTwoCamps$Law;IZ)I
def aC_192 : List (List aI) := [[.bipush 0, .istore 5, .bipush 0, .istore 6, .bipush 0, .istore 7],
  [.iload 7, .bipush 24, .if_icmp .ge 14],
  [.bipush 0, .istore 8],
  [.aload 1, .getfield 32010008, .iload 7, .invokestatic 995037, .ifCond .eq 13],
  [.iload 8, .bipush 24, .if_icmp .ge 13],
  [.iload 8, .iload 7, .if_icmp .eq 12],
  [.aload 1, .getfield 32010008, .iload 8, .invokestatic 995037, .ifCond .eq 12],
  [.aload 1, .iload 7, .invokevirtual 1011225, .aload 1, .iload 8, .invokevirtual 1011225, .if_icmp .ne 9],
  [.bipush 1, .goto 10],
  [.bipush 0],
  [.iload 4, .if_icmp .ne 12],
  [.iload 5, .aload 0, .aload 1, .aload 2, .iload 7, .iload 8, .iload 3, .invokevirtual 1087191, .iadd, .istore 5, .iinc 6 1],
  [.iinc 8 1, .goto 3],
  [.iinc 7 1, .goto 1],
  [.iload 5, .iload 6, .invokestatic 1088038, .ireturn]]
-- 193: TwoCamps$Tape.<init>()V
def aC_193 : List (List aI) := [[.aload 0, .invokespecial 187903, .aload 0, .bipush 500, .newarray .int, .putfield 19307010, .aload 0, .bipush 500, .newarray .int, .putfield 19407014, .aload 0, .bipush 500, .newarray .int, .putfield 19607018, .aload 0, .bipush 500, .newarray .int, .putfield 19807022, .return_]]
-- 194: TwoCamps$Tape.add(I)V
def aC_194 : List (List aI) := [[.bipush 24, .istore 2],
  [.iload 2, .ifCond .lt 6],
  [.aload 0, .getfield 18807000, .ifCond .lt 5],
  [.aload 0, .getfield 18807000, .bipush 500, .if_icmp .ge 5],
  [.aload 0, .getfield 19307010, .aload 0, .getfield 18807000, .iload 1, .iload 2, .iushr, .bipush 255, .iand, .iastore, .aload 0, .dup, .getfield 18807000, .bipush 1, .iadd, .putfield 18807000],
  [.iinc 2 (-8), .goto 1],
  [.return_]]
-- 195: TwoCamps$Tape.findTokens()V
def aC_195 : List (List aI) := [[.aload 0, .bipush 0, .putfield 19107004, .bipush 0, .istore 1, .bipush 0, .istore 2],
  [.iload 2, .bipush 500, .if_icmp .ge 4],
  [.iload 1, .aload 0, .getfield 18807000, .if_icmp .ge 4],
  [.aload 0, .iload 1, .invokevirtual 637196, .istore 1, .iinc 2 1, .goto 1],
  [.return_]]
-- 196: TwoCamps$Tape.findToken(I)I
def aC_196 : List (List aI) := [[.aload 0, .iload 1, .invokevirtual 641198, .istore 2, .iload 1, .bipush 1, .iadd, .istore 3, .iload 2, .invokestatic 645202, .ifCond .eq 5],
  [.iload 3, .aload 0, .getfield 18807000, .if_icmp .ge 4],
  [.aload 0, .iload 3, .invokevirtual 641198, .invokestatic 645202, .ifCond .eq 4],
  [.iinc 3 1, .goto 1],
  [.aload 0, .aload 0, .iload 1, .iload 3, .invokevirtual 648200, .iload 1, .bipush 0, .invokevirtual 737197, .goto 19],
  [.iload 2, .invokestatic 741203, .ifCond .eq 13],
  [.iload 3, .aload 0, .getfield 18807000, .if_icmp .ge 9],
  [.aload 0, .iload 3, .invokevirtual 641198, .invokestatic 741203, .ifCond .eq 9],
  [.iinc 3 1, .goto 6],
  [.aload 0, .iload 3, .iload 1, .isub, .bipush 4, .if_icmp .gt 11],
  [.bipush 100, .goto 12],
  [.bipush 102],
  [.iload 1, .aload 0, .iload 1, .iload 3, .invokevirtual 744199, .invokevirtual 737197, .goto 19],
  [.iload 2, .bipush 32, .if_icmp .eq 19],
  [.iload 2, .bipush 10, .if_icmp .eq 19],
  [.aload 0, .iload 2, .invokestatic 748204, .ifCond .eq 17],
  [.iload 2, .goto 18],
  [.bipush 102],
  [.iload 1, .bipush 0, .invokevirtual 737197],
  [.iload 3, .ireturn]]
-- 197: TwoCamps$Tape.put(III)V
def aC_197 : List (List aI) := [[.aload 0, .getfield 19107004, .ifCond .lt 3],
  [.aload 0, .getfield 19107004, .bipush 500, .if_icmp .ge 3],
  [.aload 0, .getfield 19407014, .aload 0, .getfield 19107004, .iload 1, .iastore, .aload 0, .getfield 19607018, .aload 0, .getfield 19107004, .iload 2, .iastore, .aload 0, .getfield 19807022, .aload 0, .getfield 19107004, .iload 3, .iastore, .aload 0, .dup, .getfield 19107004, .bipush 1, .iadd, .putfield 19107004],
  [.return_]]
-- 198: TwoCamps$Tape.signAt(I)I
def aC_198 : List (List aI) := [[.iload 1, .ifCond .lt 4],
  [.iload 1, .aload 0, .getfield 18807000, .if_icmp .ge 4],
  [.iload 1, .bipush 500, .if_icmp .ge 4],
  [.aload 0, .getfield 19307010, .iload 1, .iaload, .goto 5],
  [.bipush (-1)],
  [.ireturn]]
-- 199: TwoCamps$Tape.valueBetween(II)I
def aC_199 : List (List aI) := [[.bipush 0, .istore 3, .iload 1, .istore 4],
  [.iload 4, .iload 2, .if_icmp .ge 3],
  [.iload 3, .bipush 10, .imul, .aload 0, .iload 4, .invokevirtual 641198, .iadd, .bipush 48, .isub, .istore 3, .iinc 4 1, .goto 1],
  [.iload 3, .ireturn]]
-- 200: TwoCamps$Tape.wordBetween(II)I
def aC_200 : List (List aI) := [[.bipush 0, .istore 3],
  [.iload 3, .bipush 28, .if_icmp .gt 5],
  [.aload 0, .iload 3, .invokestatic 652205, .iload 1, .iload 2, .invokevirtual 685201, .ifCond .eq 4],
  [.iload 3, .ireturn],
  [.iinc 3 1, .goto 1],
  [.bipush 102, .ireturn]]
-- 201: TwoCamps$Tape.isBetween(Ljava/lang/String;II)Z
def aC_201 : List (List aI) := [[.aload 1, .invokevirtual 689900, .iload 3, .iload 2, .isub, .if_icmp .eq 2],
  [.bipush 0, .ireturn],
  [.bipush 0, .istore 4],
  [.iload 4, .aload 1, .invokevirtual 689900, .if_icmp .ge 7],
  [.aload 1, .iload 4, .invokevirtual 699901, .aload 0, .iload 2, .iload 4, .iadd, .invokevirtual 641198, .if_icmp .eq 6],
  [.bipush 0, .ireturn],
  [.iinc 4 1, .goto 3],
  [.bipush 1, .ireturn]]
-- 202: TwoCamps$Tape.isLetter(I)Z
def aC_202 : List (List aI) := [[.iload 0, .bipush 97, .if_icmp .lt 2],
  [.iload 0, .bipush 122, .if_icmp .le 4],
  [.iload 0, .bipush 65, .if_icmp .lt 5],
  [.iload 0, .bipush 90, .if_icmp .gt 5],
  [.bipush 1, .goto 6],
  [.bipush 0],
  [.ireturn]]
-- 203: TwoCamps$Tape.isDigit(I)Z
def aC_203 : List (List aI) := [[.iload 0, .bipush 48, .if_icmp .lt 3],
  [.iload 0, .bipush 57, .if_icmp .gt 3],
  [.bipush 1, .goto 4],
  [.bipush 0],
  [.ireturn]]
-- 204: TwoCamps$Tape.isSign(I)Z
def aC_204 : List (List aI) := [[.iload 0, .bipush 40, .if_icmp .lt 2],
  [.iload 0, .bipush 43, .if_icmp .le 6],
  [.iload 0, .bipush 45, .if_icmp .eq 6],
  [.iload 0, .bipush 47, .if_icmp .eq 6],
  [.iload 0, .bipush 59, .if_icmp .lt 7],
  [.iload 0, .bipush 62, .if_icmp .gt 7],
  [.bipush 1, .goto 8],
  [.bipush 0],
  [.ireturn]]
-- 205: TwoCamps$Tape.spelling(I)Ljava/lang/String;
def aC_205 : List (List aI) := [[.iload 0, .tableswitch 30 0 28 #[1, 2, 3, 4, 5, 6, 7, 8, 9, 10, 11, 12, 13, 14, 15, 16, 17, 18, 19, 20, 21, 22, 23, 24, 25, 26, 27, 28, 29]],
  [.ldc 65500, .areturn],
  [.ldc 65601, .areturn],
  [.ldc 65702, .areturn],
  [.ldc 65803, .areturn],
  [.ldc 65904, .areturn],
  [.ldc 66005, .areturn],
  [.ldc 66106, .areturn],
  [.ldc 66207, .areturn],
  [.ldc 66308, .areturn],
  [.ldc 66409, .areturn],
  [.ldc 66510, .areturn],
  [.ldc 66611, .areturn],
  [.ldc 66712, .areturn],
  [.ldc 66813, .areturn],
  [.ldc 66914, .areturn],
  [.ldc 67015, .areturn],
  [.ldc 67116, .areturn],
  [.ldc 67217, .areturn],
  [.ldc 67318, .areturn],
  [.ldc 67419, .areturn],
  [.ldc 67520, .areturn],
  [.ldc 67621, .areturn],
  [.ldc 67722, .areturn],
  [.ldc 67823, .areturn],
  [.ldc 67924, .areturn],
  [.ldc 68025, .areturn],
  [.ldc 68126, .areturn],
  [.ldc 68227, .areturn],
  [.ldc 68328, .areturn],
  [.ldc 68429, .areturn]]
-- 206: TwoCamps$Thought.<init>(LTwoCamps$Course;)V
def aC_206 : List (List aI) := [[.aload 0, .invokespecial 496903, .aload 0, .bipush 6, .anewarray 49704, .putfield 50108006, .aload 0, .bipush 5, .newarray .int, .putfield 50608018, .aload 0, .bipush 5, .newarray .int, .putfield 50708022, .aload 0, .bipush 120, .newarray .int, .putfield 50908026, .aload 0, .aload 1, .putfield 50008002, .bipush 0, .istore 2],
  [.iload 2, .aload 0, .getfield 50108006, .arraylength, .if_icmp .ge 3],
  [.aload 0, .getfield 50108006, .iload 2, .new 49710, .dup, .invokespecial 499219, .aastore, .iinc 2 1, .goto 1],
  [.return_]]
-- 207: TwoCamps$Thought.startFrom(LTwoCamps$Told;)LTwoCamps$Wood;
def aC_207 : List (List aI) := [[.aload 0, .getfield 50108006, .bipush 0, .aaload, .astore 2, .aload 2, .aload 1, .getfield 41109002, .invokevirtual 1101220, .aload 2, .areturn]]
-- 208: TwoCamps$Thought.lead(LTwoCamps$Told;LTwoCamps$Plan;LTwoCamps$Law;Z)LTwoCamps$Wood;
def aC_208 : List (List aI) := [[.aload 0, .aload 1, .invokevirtual 1097207, .astore 5, .aload 0, .bipush (-1), .putfield 50208008, .aload 0, .bipush 0, .putfield 50408012, .bipush 0, .istore 6],
  [.iload 6, .aload 2, .getfield 26003000, .if_icmp .ge 12],
  [.aload 5, .getfield 33210016, .bipush 60, .if_icmp .ge 12],
  [.iload 4, .ifCond .eq 5],
  [.aload 2, .getfield 27103018, .iload 6, .iaload, .goto 6],
  [.bipush (-1)],
  [.istore 7, .aload 0, .getfield 50008002, .aload 5, .aload 3, .aload 2, .getfield 26503010, .iload 6, .iaload, .aload 2, .getfield 26803014, .iload 6, .iaload, .iload 7, .invokevirtual 1106138, .istore 8, .iload 8, .ifCond .le 9],
  [.aload 0, .getfield 50208008, .bipush (-1), .if_icmp .ne 9],
  [.aload 0, .iload 6, .bipush 1, .iadd, .putfield 50208008],
  [.aload 1, .getfield 42209022, .iload 6, .iaload, .bipush (-100), .if_icmp .eq 11],
  [.aload 0, .dup, .getfield 50408012, .aload 5, .invokevirtual 1107230, .aload 1, .getfield 42209022, .iload 6, .iaload, .isub, .invokestatic 1111904, .iadd, .putfield 50408012],
  [.iinc 6 1, .goto 1],
  [.aload 5, .areturn]]
-- 209: TwoCamps$Thought.daysTillFight(LTwoCamps$Told;LTwoCamps$Law;I)I
def aC_209 : List (List aI) := [[.aload 0, .aload 1, .invokevirtual 1097207, .astore 4, .bipush 0, .istore 5],
  [.iload 5, .iload 3, .if_icmp .ge 3],
  [.aload 0, .getfield 50008002, .aload 4, .aload 2, .bipush 0, .bipush 0, .bipush (-1), .invokevirtual 1106138, .pop, .iinc 5 1, .goto 1],
  [.bipush 1, .istore 5],
  [.iload 5, .bipush 20, .if_icmp .gt 8],
  [.aload 0, .getfield 50008002, .aload 4, .aload 2, .bipush 1, .bipush 5, .bipush (-1), .invokevirtual 1106138, .ifCond .le 7],
  [.iload 5, .ireturn],
  [.iinc 5 1, .goto 4],
  [.bipush (-1), .ireturn]]
-- 210: TwoCamps$Thought.daysTillPeace(LTwoCamps$Told;LTwoCamps$Law;)I
def aC_210 : List (List aI) := [[.aload 0, .aload 1, .invokevirtual 1097207, .astore 3, .bipush 0, .istore 4],
  [.iload 4, .bipush 30, .if_icmp .ge 4],
  [.aload 3, .invokevirtual 1107230, .ifCond .ge 4],
  [.aload 0, .getfield 50008002, .aload 3, .aload 2, .bipush 3, .bipush 0, .bipush (-1), .invokevirtual 1106138, .pop, .iinc 4 1, .goto 1],
  [.aload 3, .invokevirtual 1107230, .ifCond .ge 6],
  [.bipush (-1), .goto 7],
  [.aload 3, .getfield 33210016, .aload 1, .getfield 41109002, .getfield 33210016, .isub],
  [.ireturn]]
-- 211: TwoCamps$Thought.beginOrders(LTwoCamps$Told;)V
def aC_211 : List (List aI) := [[.aload 0, .aload 1, .invokevirtual 1097207, .pop, .aload 0, .bipush 0, .putfield 51008028, .aload 0, .bipush 0, .putfield 51308037, .aload 0, .bipush (-1), .putfield 51108032, .return_]]
-- 212: TwoCamps$Thought.beginSecond()V
def aC_212 : List (List aI) := [[.aload 0, .bipush 0, .putfield 51008028, .aload 0, .bipush 1, .putfield 51308037, .return_]]
-- 213: TwoCamps$Thought.tryOrders(LTwoCamps$Thought;LTwoCamps$Told;LTwoCamps$Law;II)V
def aC_213 : List (List aI) := [[.iload 3, .aload 1, .getfield 42909032, .if_icmp .ge 2],
  [.iload 3, .bipush 5, .if_icmp .lt 3],
  [.aload 0, .aload 0, .getfield 50108006, .iload 3, .aaload, .invokevirtual 1107230, .invokevirtual 1156214, .return_],
  [.bipush 0, .istore 5],
  [.iload 5, .aload 1, .getfield 42909032, .if_icmp .ge 13],
  [.iload 4, .iload 5, .invokestatic 1161037, .ifCond .ne 12],
  [.aload 0, .getfield 50108006, .iload 3, .bipush 1, .iadd, .aaload, .astore 6, .aload 6, .aload 0, .getfield 50108006, .iload 3, .aaload, .invokevirtual 1101220, .aload 1, .getfield 41909018, .iload 5, .iaload, .istore 7, .aload 6, .getfield 33210016, .bipush 60, .if_icmp .ge 11],
  [.aload 0, .getfield 50008002, .aload 6, .aload 2, .iload 7, .iload 7, .bipush 1, .if_icmp .ne 9],
  [.bipush 5, .goto 10],
  [.bipush 0],
  [.bipush (-1), .invokevirtual 1106138, .pop],
  [.aload 0, .getfield 50608018, .iload 3, .iload 5, .iastore, .aload 0, .aload 1, .aload 2, .iload 3, .bipush 1, .iadd, .iload 4, .bipush 1, .iload 5, .ishl, .ior, .invokestatic 1162213],
  [.iinc 5 1, .goto 4],
  [.return_]]
-- 214: TwoCamps$Thought.arrive(I)V
def aC_214 : List (List aI) := [[.aload 0, .getfield 51008028, .ifCond .lt 2],
  [.aload 0, .getfield 51008028, .bipush 120, .if_icmp .lt 3],
  [.return_],
  [.aload 0, .getfield 51308037, .ifCond .ne 5],
  [.aload 0, .getfield 50908026, .aload 0, .getfield 51008028, .iload 1, .iastore, .goto 7],
  [.aload 0, .getfield 50908026, .aload 0, .getfield 51008028, .iaload, .iload 1, .isub, .invokestatic 1111904, .aload 0, .getfield 51108032, .if_icmp .le 7],
  [.aload 0, .aload 0, .getfield 50908026, .aload 0, .getfield 51008028, .iaload, .iload 1, .isub, .invokestatic 1111904, .putfield 51108032, .aload 0, .getfield 50608018, .bipush 0, .aload 0, .getfield 50708022, .bipush 0, .bipush 5, .invokestatic 1160902],
  [.aload 0, .dup, .getfield 51008028, .bipush 1, .iadd, .putfield 51008028, .return_]]
-- 215: TwoCamps$Told.<init>()V
def aC_215 : List (List aI) := [[.aload 0, .invokespecial 310903, .aload 0, .new 31110, .dup, .invokespecial 313219, .putfield 40909002, .aload 0, .bipush 4, .anewarray 40002, .putfield 41209006, .aload 0, .bipush 4, .anewarray 40203, .putfield 41409010, .aload 0, .bipush 480, .newarray .int, .putfield 41609014, .aload 0, .bipush 5, .newarray .int, .putfield 41809018, .aload 0, .bipush 24, .newarray .int, .putfield 42109022, .aload 0, .bipush 24, .newarray .int, .putfield 42409026, .bipush 0, .istore 1],
  [.iload 1, .bipush 4, .if_icmp .ge 3],
  [.aload 0, .getfield 41209006, .iload 1, .new 40002, .dup, .invokespecial 404152, .aastore, .aload 0, .getfield 41409010, .iload 1, .new 40203, .dup, .invokespecial 405160, .aastore, .iinc 1 1, .goto 1],
  [.aload 0, .getfield 42109022, .bipush (-100), .invokestatic 406240, .return_]]
-- 216: TwoCamps$Told.copyFrom(LTwoCamps$Told;)V
def aC_216 : List (List aI) := [[.aload 0, .getfield 40909002, .aload 1, .getfield 40909002, .invokevirtual 1227220, .bipush 0, .istore 2],
  [.iload 2, .bipush 4, .if_icmp .ge 3],
  [.aload 0, .getfield 41209006, .iload 2, .aaload, .aload 1, .getfield 41209006, .iload 2, .aaload, .invokevirtual 1228153, .aload 0, .getfield 41409010, .iload 2, .aaload, .aload 1, .getfield 41409010, .iload 2, .aaload, .invokevirtual 1229161, .iinc 2 1, .goto 1],
  [.aload 1, .getfield 41609014, .bipush 0, .aload 0, .getfield 41609014, .bipush 0, .bipush 480, .invokestatic 1230902, .aload 1, .getfield 41809018, .bipush 0, .aload 0, .getfield 41809018, .bipush 0, .bipush 5, .invokestatic 1230902, .aload 1, .getfield 42109022, .bipush 0, .aload 0, .getfield 42109022, .bipush 0, .bipush 24, .invokestatic 1230902, .aload 1, .getfield 42409026, .bipush 0, .aload 0, .getfield 42409026, .bipush 0, .bipush 24, .invokestatic 1230902, .aload 0, .aload 1, .getfield 42609028, .putfield 42609028, .aload 0, .aload 1, .getfield 42809032, .putfield 42809032, .return_]]
-- 217: TwoCamps$Told.lawInForce()LTwoCamps$Law;
def aC_217 : List (List aI) := [[.aload 0, .getfield 41209006, .aload 0, .getfield 42609028, .aaload, .areturn]]
-- 218: TwoCamps$Told.keepDay()V
def aC_218 : List (List aI) := [[.aload 0, .getfield 40909002, .getfield 33310016, .bipush 1, .isub, .bipush 8, .imul, .istore 1, .iload 1, .ifCond .lt 2],
  [.iload 1, .bipush 8, .iadd, .aload 0, .getfield 41609014, .arraylength, .if_icmp .le 3],
  [.return_],
  [.aload 0, .getfield 41609014, .iload 1, .aload 0, .getfield 40909002, .bipush 0, .invokevirtual 1016228, .iastore, .aload 0, .getfield 41609014, .iload 1, .bipush 1, .iadd, .aload 0, .getfield 40909002, .bipush 1, .invokevirtual 1016228, .iastore, .aload 0, .getfield 41609014, .iload 1, .bipush 2, .iadd, .aload 0, .getfield 40909002, .bipush 0, .invokevirtual 1020229, .iastore, .aload 0, .getfield 41609014, .iload 1, .bipush 3, .iadd, .aload 0, .getfield 40909002, .bipush 1, .invokevirtual 1020229, .iastore, .aload 0, .getfield 41609014, .iload 1, .bipush 4, .iadd, .aload 0, .getfield 40909002, .getfield 34910036, .iastore, .aload 0, .getfield 41609014, .iload 1, .bipush 5, .iadd, .aload 0, .getfield 40909002, .getfield 35510044, .iastore, .aload 0, .getfield 41609014, .iload 1, .bipush 6, .iadd, .aload 0, .getfield 40909002, .getfield 32310008, .invokestatic 1024239, .iastore, .aload 0, .getfield 41609014, .iload 1, .bipush 7, .iadd, .aload 0, .getfield 40909002, .getfield 33910024, .iastore, .return_]]
-- 219: TwoCamps$Wood.<init>()V
def aC_219 : List (List aI) := [[.aload 0, .invokespecial 316903, .aload 0, .bipush (-1), .putfield 34610036, .aload 0, .bipush (-1), .putfield 35010040, .aload 0, .bipush 24, .newarray .int, .putfield 35610050, .aload 0, .bipush 24, .newarray .int, .putfield 35910054, .aload 0, .bipush 576, .newarray .int, .putfield 36110058, .aload 0, .bipush 18, .newarray .int, .putfield 36510062, .return_]]
-- 220: TwoCamps$Wood.copyFrom(LTwoCamps$Wood;)V
def aC_220 : List (List aI) := [[.aload 0, .aload 1, .getfield 31710000, .putfield 31710000, .aload 0, .aload 1, .getfield 31910004, .putfield 31910004, .aload 0, .aload 1, .getfield 32110008, .putfield 32110008, .aload 0, .aload 1, .getfield 32610012, .putfield 32610012, .aload 0, .aload 1, .getfield 32910016, .putfield 32910016, .aload 0, .aload 1, .getfield 33410020, .putfield 33410020, .aload 0, .aload 1, .getfield 33710024, .putfield 33710024, .aload 0, .aload 1, .getfield 34110028, .putfield 34110028, .aload 0, .aload 1, .getfield 34410032, .putfield 34410032, .aload 0, .aload 1, .getfield 34610036, .putfield 34610036, .aload 0, .aload 1, .getfield 35010040, .putfield 35010040, .aload 0, .aload 1, .getfield 35410044, .putfield 35410044, .aload 1, .getfield 35610050, .bipush 0, .aload 0, .getfield 35610050, .bipush 0, .bipush 24, .invokestatic 1105902, .aload 1, .getfield 35910054, .bipush 0, .aload 0, .getfield 35910054, .bipush 0, .bipush 24, .invokestatic 1105902, .aload 1, .getfield 36110058, .bipush 0, .aload 0, .getfield 36110058, .bipush 0, .bipush 576, .invokestatic 1105902, .aload 1, .getfield 36510062, .bipush 0, .aload 0, .getfield 36510062, .bipush 0, .bipush 18, .invokestatic 1105902, .return_]]
-- 221: TwoCamps$Wood.join(II)I
def aC_221 : List (List aI) := [[.aload 0, .getfield 31710000, .ifCond .lt 2],
  [.aload 0, .getfield 31710000, .bipush 24, .if_icmp .lt 3],
  [.bipush (-1), .ireturn],
  [.aload 0, .getfield 31710000, .istore 3, .aload 0, .dup, .getfield 31710000, .bipush 1, .iadd, .putfield 31710000, .aload 0, .getfield 35610050, .iload 3, .iload 2, .iastore, .aload 0, .dup, .getfield 31910004, .iload 1, .iload 3, .ishl, .ior, .putfield 31910004, .aload 0, .dup, .getfield 32110008, .bipush 1, .iload 3, .ishl, .ior, .putfield 32110008, .aload 0, .dup, .getfield 32610012, .bipush 1, .iload 3, .ishl, .ior, .putfield 32610012, .iload 3, .ireturn]]
-- 222: TwoCamps$Wood.isBoy(I)Z
def aC_222 : List (List aI) := [[.iload 1, .ifCond .lt 3],
  [.iload 1, .aload 0, .getfield 31710000, .if_icmp .ge 3],
  [.bipush 1, .goto 4],
  [.bipush 0],
  [.ireturn]]
-- 223: TwoCamps$Wood.isCouple(II)Z
def aC_223 : List (List aI) := [[.aload 0, .iload 1, .invokevirtual 594222, .ifCond .eq 4],
  [.aload 0, .iload 2, .invokevirtual 594222, .ifCond .eq 4],
  [.iload 1, .iload 2, .if_icmp .eq 4],
  [.bipush 1, .goto 5],
  [.bipush 0],
  [.ireturn]]
-- 224: TwoCamps$Wood.tellKnown(IIZ)V
def aC_224 : List (List aI) := [[.aload 0, .getfield 35910054, .iload 1, .iload 3, .ifCond .eq 2],
  [.aload 0, .getfield 35910054, .iload 1, .iaload, .bipush 1, .iload 2, .ishl, .ior, .goto 3],
  [.aload 0, .getfield 35910054, .iload 1, .iaload, .bipush 1, .iload 2, .ishl, .bipush (-1), .ixor, .iand],
  [.iastore, .aload 0, .getfield 35910054, .iload 2, .iload 3, .ifCond .eq 5],
  [.aload 0, .getfield 35910054, .iload 2, .iaload, .bipush 1, .iload 1, .ishl, .ior, .goto 6],
  [.aload 0, .getfield 35910054, .iload 2, .iaload, .bipush 1, .iload 1, .ishl, .bipush (-1), .ixor, .iand],
  [.iastore, .return_]]
-- 225: TwoCamps$Wood.lotOf(I)I
def aC_225 : List (List aI) := [[.aload 0, .getfield 31910004, .iload 1, .iushr, .bipush 1, .iand, .ireturn]]
-- 226: TwoCamps$Wood.members(I)I
def aC_226 : List (List aI) := [[.aload 0, .getfield 32110008, .iload 1, .ifCond .ne 2],
  [.aload 0, .getfield 31910004, .bipush (-1), .ixor, .goto 3],
  [.aload 0, .getfield 31910004],
  [.iand, .ireturn]]
-- 227: TwoCamps$Wood.size(I)I
def aC_227 : List (List aI) := [[.aload 0, .iload 1, .invokevirtual 883226, .invokestatic 891239, .ireturn]]
-- 228: TwoCamps$Wood.own(I)I
def aC_228 : List (List aI) := [[.aload 0, .aload 0, .iload 1, .invokevirtual 883226, .aload 0, .iload 1, .invokevirtual 883226, .invokevirtual 887231, .ireturn]]
-- 229: TwoCamps$Wood.across(I)I
def aC_229 : List (List aI) := [[.aload 0, .aload 0, .iload 1, .invokevirtual 883226, .aload 0, .bipush 1, .iload 1, .isub, .invokevirtual 883226, .invokevirtual 887231, .ireturn]]
-- 230: TwoCamps$Wood.cross()I
def aC_230 : List (List aI) := [[.aload 0, .bipush 0, .invokevirtual 883226, .istore 1, .aload 0, .bipush 1, .invokevirtual 883226, .istore 2, .bipush 2, .iload 1, .invokestatic 891239, .imul, .iload 2, .invokestatic 891239, .imul, .istore 3, .aload 0, .iload 1, .iload 2, .invokevirtual 897232, .aload 0, .iload 2, .iload 1, .invokevirtual 897232, .iadd, .iload 3, .invokestatic 904038, .ireturn]]
-- 231: TwoCamps$Wood.meanLike(II)I
def aC_231 : List (List aI) := [[.iload 1, .invokestatic 891239, .iload 2, .invokestatic 891239, .imul, .iload 1, .iload 2, .iand, .invokestatic 891239, .isub, .istore 3, .aload 0, .iload 1, .iload 2, .invokevirtual 897232, .iload 3, .invokestatic 904038, .ireturn]]
-- 232: TwoCamps$Wood.likeSum(II)I
def aC_232 : List (List aI) := [[.bipush 0, .istore 3, .bipush 0, .istore 4],
  [.iload 4, .bipush 24, .if_icmp .ge 10],
  [.bipush 0, .istore 5],
  [.iload 1, .iload 4, .invokestatic 901037, .ifCond .eq 9],
  [.iload 5, .bipush 24, .if_icmp .ge 9],
  [.iload 5, .iload 4, .if_icmp .eq 8],
  [.iload 2, .iload 5, .invokestatic 901037, .ifCond .eq 8],
  [.iload 3, .aload 0, .getfield 36110058, .iload 4, .bipush 24, .imul, .iload 5, .iadd, .iaload, .iadd, .istore 3],
  [.iinc 5 1, .goto 3],
  [.iinc 4 1, .goto 1],
  [.iload 3, .ireturn]]
-- 233: TwoCamps$Wood.score(I)I
def aC_233 : List (List aI) := [[.aload 0, .iload 1, .invokevirtual 883226, .istore 2, .aload 0, .iload 2, .iload 2, .invokevirtual 887231, .bipush 5, .invokestatic 910905, .aload 0, .invokevirtual 911234, .iadd, .istore 3, .bipush 0, .istore 4],
  [.iload 4, .bipush 24, .if_icmp .ge 5],
  [.iload 2, .iload 4, .invokestatic 901037, .ifCond .eq 4],
  [.iload 3, .aload 0, .getfield 35610050, .iload 4, .iaload, .iadd, .istore 3],
  [.iinc 4 1, .goto 1],
  [.iload 3, .ireturn]]
-- 234: TwoCamps$Wood.drawOfTen()I
def aC_234 : List (List aI) := [[.aload 0, .ldc_w 3929896740365, .aload 0, .getfield 33410020, .imul, .ldc_w 3935203947359, .iadd, .putfield 33410020, .aload 0, .getfield 33410020, .bipush 8, .iushr, .bipush 10, .irem, .ireturn]]
-- 235: TwoCamps$Wood.count(III)V
def aC_235 : List (List aI) := [[.aload 0, .getfield 36510062, .iload 1, .bipush 2, .imul, .iload 2, .iadd, .dup2, .iaload, .iload 3, .iadd, .iastore, .return_]]
-- 236: TwoCamps$Wood.tallied(I)I
def aC_236 : List (List aI) := [[.aload 0, .getfield 36510062, .iload 1, .bipush 2, .imul, .iaload, .aload 0, .getfield 36510062, .iload 1, .bipush 2, .imul, .bipush 1, .iadd, .iaload, .iadd, .ireturn]]
-- 237: TwoCamps$Wood.isNamed(I)Z
def aC_237 : List (List aI) := [[.aload 0, .getfield 36510062, .bipush 6, .iload 1, .iadd, .iaload, .ifCond .le 2],
  [.bipush 1, .goto 3],
  [.bipush 0],
  [.ireturn]]
-- 238: TwoCamps$Wood.names()I
def aC_238 : List (List aI) := [[.aload 0, .bipush 0, .invokevirtual 1124237, .ifCond .eq 2],
  [.bipush 1, .goto 3],
  [.bipush 0],
  [.aload 0, .bipush 1, .invokevirtual 1124237, .ifCond .eq 5],
  [.bipush 1, .goto 6],
  [.bipush 0],
  [.iadd, .ireturn]]
-- 239: java/lang/Integer.bitCount(I)I
def aC_239 : List (List aI) := [[.iload 0, .iload 0, .bipush 1, .iushr, .ldc_w 3841132418389, .iand, .isub, .istore 0, .iload 0, .ldc_w 3844854723379, .iand, .iload 0, .bipush 2, .iushr, .ldc_w 3844854723379, .iand, .iadd, .istore 0, .iload 0, .iload 0, .bipush 4, .iushr, .iadd, .ldc_w 3848543342351, .iand, .istore 0, .iload 0, .iload 0, .bipush 8, .iushr, .iadd, .istore 0, .iload 0, .iload 0, .bipush 16, .iushr, .iadd, .istore 0, .iload 0, .bipush 63, .iand, .ireturn]]
-- 240: java/util/Arrays.fill([II)V
def aC_240 : List (List aI) := [[.bipush 0, .istore 2, .aload 0, .arraylength, .istore 3],
  [.iload 2, .iload 3, .if_icmp .ge 3],
  [.aload 0, .iload 2, .iload 1, .iastore, .iinc 2 1, .goto 1],
  [.return_]]
-- 241: TwoCampsLaw.law([I)Z
def aC_241 : List (List aI) := [[.new 17411, .dup, .invokespecial 176000, .astore 1, .new 123512, .dup, .invokespecial 1237041, .astore 2, .bipush 0, .istore 3],
  [.iload 3, .aload 0, .arraylength, .bipush 6, .isub, .if_icmp .gt 52],
  [.aload 0, .iload 3, .iaload, .bipush 31, .iand, .tableswitch 51 0 28 #[3, 4, 5, 12, 13, 14, 15, 16, 17, 18, 19, 20, 21, 22, 23, 24, 25, 32, 33, 34, 35, 36, 37, 38, 39, 40, 41, 42, 49]],
  [.aload 1, .aload 0, .iload 3, .bipush 1, .iadd, .iaload, .aload 0, .iload 3, .bipush 2, .iadd, .iaload, .invokevirtual 575001, .pop, .aload 2, .aload 0, .iload 3, .bipush 1, .iadd, .iaload, .aload 0, .iload 3, .bipush 2, .iadd, .iaload, .invokevirtual 1484047, .pop, .goto 51],
  [.aload 1, .aload 0, .iload 3, .bipush 1, .iadd, .iaload, .aload 0, .iload 3, .bipush 2, .iadd, .iaload, .aload 0, .iload 3, .bipush 3, .iadd, .iaload, .invokevirtual 586002, .pop, .aload 2, .aload 0, .iload 3, .bipush 1, .iadd, .iaload, .aload 0, .iload 3, .bipush 2, .iadd, .iaload, .aload 0, .iload 3, .bipush 3, .iadd, .iaload, .invokevirtual 1496048, .pop, .goto 51],
  [.aload 1, .aload 0, .iload 3, .bipush 1, .iadd, .iaload, .aload 0, .iload 3, .bipush 2, .iadd, .iaload, .aload 0, .iload 3, .bipush 3, .iadd, .iaload, .ifCond .eq 7],
  [.bipush 1, .goto 8],
  [.bipush 0],
  [.invokevirtual 601003, .pop, .aload 2, .aload 0, .iload 3, .bipush 1, .iadd, .iaload, .aload 0, .iload 3, .bipush 2, .iadd, .iaload, .aload 0, .iload 3, .bipush 3, .iadd, .iaload, .ifCond .eq 10],
  [.bipush 1, .goto 11],
  [.bipush 0],
  [.invokevirtual 1504049, .pop, .goto 51],
  [.aload 1, .aload 0, .iload 3, .bipush 1, .iadd, .iaload, .invokevirtual 609004, .pop, .aload 2, .aload 0, .iload 3, .bipush 1, .iadd, .iaload, .invokevirtual 1508050, .pop, .goto 51],
  [.aload 1, .aload 0, .iload 3, .bipush 1, .iadd, .iaload, .aload 0, .iload 3, .bipush 2, .iadd, .iaload, .aload 0, .iload 3, .bipush 3, .iadd, .iaload, .aload 0, .iload 3, .bipush 4, .iadd, .iaload, .aload 0, .iload 3, .bipush 5, .iadd, .iaload, .invokevirtual 613005, .pop, .aload 2, .aload 0, .iload 3, .bipush 1, .iadd, .iaload, .aload 0, .iload 3, .bipush 2, .iadd, .iaload, .aload 0, .iload 3, .bipush 3, .iadd, .iaload, .aload 0, .iload 3, .bipush 4, .iadd, .iaload, .aload 0, .iload 3, .bipush 5, .iadd, .iaload, .invokevirtual 1516058, .pop, .goto 51],
  [.aload 1, .aload 0, .iload 3, .bipush 1, .iadd, .iaload, .invokevirtual 621006, .pop, .aload 2, .aload 0, .iload 3, .bipush 1, .iadd, .iaload, .invokevirtual 1524059, .pop, .goto 51],
  [.aload 1, .aload 0, .iload 3, .bipush 1, .iadd, .iaload, .aload 0, .iload 3, .bipush 2, .iadd, .iaload, .invokevirtual 625007, .pop, .aload 2, .aload 0, .iload 3, .bipush 1, .iadd, .iaload, .aload 0, .iload 3, .bipush 2, .iadd, .iaload, .invokevirtual 1528081, .pop, .goto 51],
  [.aload 1, .aload 0, .iload 3, .bipush 1, .iadd, .iaload, .invokevirtual 839008, .pop, .aload 2, .aload 0, .iload 3, .bipush 1, .iadd, .iaload, .invokevirtual 1616082, .pop, .goto 51],
  [.aload 1, .aload 0, .iload 3, .bipush 1, .iadd, .iaload, .invokevirtual 843009, .pop, .aload 2, .aload 0, .iload 3, .bipush 1, .iadd, .iaload, .invokevirtual 1620103, .pop, .goto 51],
  [.aload 1, .aload 0, .iload 3, .bipush 1, .iadd, .iaload, .aload 0, .iload 3, .bipush 2, .iadd, .iaload, .aload 0, .iload 3, .bipush 3, .iadd, .iaload, .invokevirtual 847010, .pop, .aload 2, .aload 0, .iload 3, .bipush 1, .iadd, .iaload, .aload 0, .iload 3, .bipush 2, .iadd, .iaload, .aload 0, .iload 3, .bipush 3, .iadd, .iaload, .invokevirtual 1624104, .pop, .goto 51],
  [.aload 1, .aload 0, .iload 3, .bipush 1, .iadd, .iaload, .invokevirtual 1025011, .pop, .aload 2, .aload 0, .iload 3, .bipush 1, .iadd, .iaload, .invokevirtual 1728106, .pop, .goto 51],
  [.aload 1, .aload 0, .iload 3, .bipush 1, .iadd, .iaload, .aload 0, .iload 3, .bipush 2, .iadd, .iaload, .invokevirtual 1029012, .pop, .aload 2, .aload 0, .iload 3, .bipush 1, .iadd, .iaload, .aload 0, .iload 3, .bipush 2, .iadd, .iaload, .invokevirtual 1800121, .pop, .goto 51],
  [.aload 1, .aload 0, .iload 3, .bipush 1, .iadd, .iaload, .aload 0, .iload 3, .bipush 2, .iadd, .iaload, .invokevirtual 1048013, .pop, .aload 2, .aload 0, .iload 3, .bipush 1, .iadd, .iaload, .aload 0, .iload 3, .bipush 2, .iadd, .iaload, .invokevirtual 1808122, .pop, .goto 51],
  [.aload 1, .aload 0, .iload 3, .bipush 1, .iadd, .iaload, .aload 0, .iload 3, .bipush 2, .iadd, .iaload, .invokevirtual 1063014, .pop, .aload 2, .aload 0, .iload 3, .bipush 1, .iadd, .iaload, .aload 0, .iload 3, .bipush 2, .iadd, .iaload, .invokevirtual 1812123, .pop, .goto 51],
  [.aload 1, .aload 0, .iload 3, .bipush 1, .iadd, .iaload, .aload 0, .iload 3, .bipush 2, .iadd, .iaload, .aload 0, .iload 3, .bipush 3, .iadd, .iaload, .invokevirtual 1067015, .pop, .aload 2, .aload 0, .iload 3, .bipush 1, .iadd, .iaload, .aload 0, .iload 3, .bipush 2, .iadd, .iaload, .aload 0, .iload 3, .bipush 3, .iadd, .iaload, .invokevirtual 1816126, .pop, .goto 51],
  [.aload 1, .aload 0, .iload 3, .bipush 1, .iadd, .iaload, .aload 0, .iload 3, .bipush 2, .iadd, .iaload, .invokevirtual 1079016, .pop, .aload 2, .aload 0, .iload 3, .bipush 1, .iadd, .iaload, .aload 0, .iload 3, .bipush 2, .iadd, .iaload, .invokevirtual 1829128, .pop, .goto 51],
  [.aload 1, .aload 0, .iload 3, .bipush 1, .iadd, .iaload, .aload 0, .iload 3, .bipush 2, .iadd, .iaload, .aload 0, .iload 3, .bipush 3, .iadd, .iaload, .ifCond .eq 27],
  [.bipush 1, .goto 28],
  [.bipush 0],
  [.aload 0, .iload 3, .bipush 4, .iadd, .iaload, .invokevirtual 1089017, .pop, .aload 2, .aload 0, .iload 3, .bipush 1, .iadd, .iaload, .aload 0, .iload 3, .bipush 2, .iadd, .iaload, .aload 0, .iload 3, .bipush 3, .iadd, .iaload, .ifCond .eq 30],
  [.bipush 1, .goto 31],
  [.bipush 0],
  [.aload 0, .iload 3, .bipush 4, .iadd, .iaload, .invokevirtual 1744110, .pop, .goto 51],
  [.aload 1, .aload 0, .iload 3, .bipush 1, .iadd, .iaload, .aload 0, .iload 3, .bipush 2, .iadd, .iaload, .invokevirtual 1125018, .pop, .aload 2, .aload 0, .iload 3, .bipush 1, .iadd, .iaload, .aload 0, .iload 3, .bipush 2, .iadd, .iaload, .invokevirtual 1760111, .pop, .goto 51],
  [.aload 1, .aload 0, .iload 3, .bipush 1, .iadd, .iaload, .invokevirtual 1133019, .pop, .aload 2, .aload 0, .iload 3, .bipush 1, .iadd, .iaload, .invokevirtual 1764112, .pop, .goto 51],
  [.aload 1, .aload 0, .iload 3, .bipush 1, .iadd, .iaload, .invokevirtual 1141020, .pop, .aload 2, .aload 0, .iload 3, .bipush 1, .iadd, .iaload, .invokevirtual 1768113, .pop, .goto 51],
  [.aload 1, .aload 0, .iload 3, .bipush 1, .iadd, .iaload, .aload 0, .iload 3, .bipush 2, .iadd, .iaload, .aload 0, .iload 3, .bipush 3, .iadd, .iaload, .invokevirtual 1145021, .pop, .aload 2, .aload 0, .iload 3, .bipush 1, .iadd, .iaload, .aload 0, .iload 3, .bipush 2, .iadd, .iaload, .aload 0, .iload 3, .bipush 3, .iadd, .iaload, .invokevirtual 1772116, .pop, .goto 51],
  [.aload 1, .aload 0, .iload 3, .bipush 1, .iadd, .iaload, .aload 0, .iload 3, .bipush 2, .iadd, .iaload, .invokevirtual 1167022, .pop, .aload 2, .aload 0, .iload 3, .bipush 1, .iadd, .iaload, .aload 0, .iload 3, .bipush 2, .iadd, .iaload, .invokevirtual 1784117, .pop, .goto 51],
  [.aload 1, .aload 0, .iload 3, .bipush 1, .iadd, .iaload, .aload 0, .iload 3, .bipush 2, .iadd, .iaload, .invokevirtual 1171023, .pop, .aload 2, .aload 0, .iload 3, .bipush 1, .iadd, .iaload, .aload 0, .iload 3, .bipush 2, .iadd, .iaload, .invokevirtual 1788119, .pop, .goto 51],
  [.aload 1, .aload 0, .iload 3, .bipush 1, .iadd, .iaload, .invokevirtual 1175024, .pop, .aload 2, .aload 0, .iload 3, .bipush 1, .iadd, .iaload, .invokevirtual 1796120, .pop, .goto 51],
  [.aload 1, .aload 0, .iload 3, .bipush 1, .iadd, .iaload, .aload 0, .iload 3, .bipush 2, .iadd, .iaload, .invokevirtual 1179025, .pop, .aload 2, .aload 0, .iload 3, .bipush 1, .iadd, .iaload, .aload 0, .iload 3, .bipush 2, .iadd, .iaload, .invokevirtual 1512052, .pop, .goto 51],
  [.aload 1, .aload 0, .iload 3, .bipush 1, .iadd, .iaload, .invokevirtual 1183026, .pop, .aload 2, .aload 0, .iload 3, .bipush 1, .iadd, .iaload, .invokevirtual 1837130, .pop, .goto 51],
  [.aload 1, .aload 0, .iload 3, .bipush 1, .iadd, .iaload, .aload 0, .iload 3, .bipush 2, .iadd, .iaload, .invokevirtual 1211027, .pop, .aload 2, .aload 0, .iload 3, .bipush 1, .iadd, .iaload, .aload 0, .iload 3, .bipush 2, .iadd, .iaload, .invokevirtual 1846131, .pop, .goto 51],
  [.aload 1, .aload 0, .iload 3, .bipush 1, .iadd, .iaload, .ifCond .eq 44],
  [.bipush 1, .goto 45],
  [.bipush 0],
  [.invokevirtual 1219028, .pop, .aload 2, .aload 0, .iload 3, .bipush 1, .iadd, .iaload, .ifCond .eq 47],
  [.bipush 1, .goto 48],
  [.bipush 0],
  [.invokevirtual 1851135, .pop, .goto 51],
  [.aload 1, .aload 0, .iload 3, .bipush 1, .iadd, .iaload, .invokevirtual 1231029, .aload 2, .aload 0, .iload 3, .bipush 1, .iadd, .iaload, .invokevirtual 1867136, .if_icmp .eq 51],
  [.bipush 0, .ireturn],
  [.iinc 3 6, .goto 1],
  [.bipush 1, .ireturn]]
def aCs : List (List (List aI)) := [aC_0, aC_1, aC_2, aC_3, aC_4, aC_5, aC_6, aC_7, aC_8, aC_9, aC_10, aC_11, aC_12, aC_13, aC_14, aC_15, aC_16, aC_17, aC_18, aC_19, aC_20, aC_21, aC_22, aC_23, aC_24, aC_25, aC_26, aC_27, aC_28, aC_29, aC_30, aC_31, aC_32, aC_33, aC_34, aC_35, aC_36, aC_37, aC_38, aC_39, aC_40, aC_41, aC_42, aC_43, aC_44, aC_45, aC_46, aC_47, aC_48, aC_49, aC_50, aC_51, aC_52, aC_53, aC_54, aC_55, aC_56, aC_57, aC_58, aC_59, aC_60, aC_61, aC_62, aC_63, aC_64, aC_65, aC_66, aC_67, aC_68, aC_69, aC_70, aC_71, aC_72, aC_73, aC_74, aC_75, aC_76, aC_77, aC_78, aC_79, aC_80, aC_81, aC_82, aC_83, aC_84, aC_85, aC_86, aC_87, aC_88, aC_89, aC_90, aC_91, aC_92, aC_93, aC_94, aC_95, aC_96, aC_97, aC_98, aC_99, aC_100, aC_101, aC_102, aC_103, aC_104, aC_105, aC_106, aC_107, aC_108, aC_109, aC_110, aC_111, aC_112, aC_113, aC_114, aC_115, aC_116, aC_117, aC_118, aC_119, aC_120, aC_121, aC_122, aC_123, aC_124, aC_125, aC_126, aC_127, aC_128, aC_129, aC_130, aC_131, aC_132, aC_133, aC_134, aC_135, aC_136, aC_137, aC_138, aC_139, aC_140, aC_141, aC_142, aC_143, aC_144, aC_145, aC_146, aC_147, aC_148, aC_149, aC_150, aC_151, aC_152, aC_153, aC_154, aC_155, aC_156, aC_157, aC_158, aC_159, aC_160, aC_161, aC_162, aC_163, aC_164, aC_165, aC_166, aC_167, aC_168, aC_169, aC_170, aC_171, aC_172, aC_173, aC_174, aC_175, aC_176, aC_177, aC_178, aC_179, aC_180, aC_181, aC_182, aC_183, aC_184, aC_185, aC_186, aC_187, aC_188, aC_189, aC_190, aC_191, aC_192, aC_193, aC_194, aC_195, aC_196, aC_197, aC_198, aC_199, aC_200, aC_201, aC_202, aC_203, aC_204, aC_205, aC_206, aC_207, aC_208, aC_209, aC_210, aC_211, aC_212, aC_213, aC_214, aC_215, aC_216, aC_217, aC_218, aC_219, aC_220, aC_221, aC_222, aC_223, aC_224, aC_225, aC_226, aC_227, aC_228, aC_229, aC_230, aC_231, aC_232, aC_233, aC_234, aC_235, aC_236, aC_237, aC_238, aC_239, aC_240, aC_241]
def aMC (y : Nat) : List (List aI) := aCs.getD y []
/-- of a method: its name, bytes, locals, what it gives back; how (0 nothing, 1 a number, 2 a boolean, 3 a long, 4 a reference), how many parameters, of which class (100: static) -/
def aI_0 : MethodName × ByteArray × Nat × Option FieldType × Nat × Nat × Nat := (⟨"TwoCamps", "<init>", "()V"⟩, prog_1_method_1_code, 1, none, 0, 0, 11)
def aI_1 : MethodName × ByteArray × Nat × Option FieldType × Nat × Nat × Nat := (⟨"TwoCamps", "boy", "(II)I"⟩, prog_1_method_2_code, 5, (Option.some FieldType.int), 1, 2, 11)
def aI_2 : MethodName × ByteArray × Nat × Option FieldType × Nat × Nat × Nat := (⟨"TwoCamps", "like", "(III)Z"⟩, prog_1_method_3_code, 4, (Option.some FieldType.boolean), 2, 3, 11)
def aI_3 : MethodName × ByteArray × Nat × Option FieldType × Nat × Nat × Nat := (⟨"TwoCamps", "knew", "(IIZ)Z"⟩, prog_1_method_4_code, 4, (Option.some FieldType.boolean), 2, 3, 11)
def aI_4 : MethodName × ByteArray × Nat × Option FieldType × Nat × Nat × Nat := (⟨"TwoCamps", "state", "(I)I"⟩, prog_1_method_5_code, 3, (Option.some FieldType.int), 1, 1, 11)
def aI_5 : MethodName × ByteArray × Nat × Option FieldType × Nat × Nat × Nat := (⟨"TwoCamps", "feed", "(IIIII)I"⟩, prog_1_method_6_code, 6, (Option.some FieldType.int), 1, 5, 11)
def aI_6 : MethodName × ByteArray × Nat × Option FieldType × Nat × Nat × Nat := (⟨"TwoCamps", "end", "(I)Z"⟩, prog_1_method_7_code, 2, (Option.some FieldType.boolean), 2, 1, 11)
def aI_7 : MethodName × ByteArray × Nat × Option FieldType × Nat × Nat × Nat := (⟨"TwoCamps", "text", "(II)I"⟩, prog_1_method_8_code, 4, (Option.some FieldType.int), 1, 2, 11)
def aI_8 : MethodName × ByteArray × Nat × Option FieldType × Nat × Nat × Nat := (⟨"TwoCamps", "fault", "(I)I"⟩, prog_1_method_9_code, 2, (Option.some FieldType.int), 1, 1, 11)
def aI_9 : MethodName × ByteArray × Nat × Option FieldType × Nat × Nat × Nat := (⟨"TwoCamps", "force", "(I)I"⟩, prog_1_method_10_code, 3, (Option.some FieldType.int), 1, 1, 11)
def aI_10 : MethodName × ByteArray × Nat × Option FieldType × Nat × Nat × Nat := (⟨"TwoCamps", "day", "(III)I"⟩, prog_1_method_11_code, 5, (Option.some FieldType.int), 1, 3, 11)
def aI_11 : MethodName × ByteArray × Nat × Option FieldType × Nat × Nat × Nat := (⟨"TwoCamps", "plan", "(I)I"⟩, prog_1_method_12_code, 5, (Option.some FieldType.int), 1, 1, 11)
def aI_12 : MethodName × ByteArray × Nat × Option FieldType × Nat × Nat × Nat := (⟨"TwoCamps", "of", "(II)I"⟩, prog_1_method_13_code, 5, (Option.some FieldType.int), 1, 2, 11)
def aI_13 : MethodName × ByteArray × Nat × Option FieldType × Nat × Nat × Nat := (⟨"TwoCamps", "lot", "(II)I"⟩, prog_1_method_14_code, 3, (Option.some FieldType.int), 1, 2, 11)
def aI_14 : MethodName × ByteArray × Nat × Option FieldType × Nat × Nat × Nat := (⟨"TwoCamps", "kept", "(II)I"⟩, prog_1_method_15_code, 4, (Option.some FieldType.int), 1, 2, 11)
def aI_15 : MethodName × ByteArray × Nat × Option FieldType × Nat × Nat × Nat := (⟨"TwoCamps", "beans", "(III)I"⟩, prog_1_method_16_code, 5, (Option.some FieldType.int), 1, 3, 11)
def aI_16 : MethodName × ByteArray × Nat × Option FieldType × Nat × Nat × Nat := (⟨"TwoCamps", "seen", "(II)I"⟩, prog_1_method_17_code, 5, (Option.some FieldType.int), 1, 2, 11)
def aI_17 : MethodName × ByteArray × Nat × Option FieldType × Nat × Nat × Nat := (⟨"TwoCamps", "led", "(IIZI)I"⟩, prog_1_method_18_code, 7, (Option.some FieldType.int), 1, 4, 11)
def aI_18 : MethodName × ByteArray × Nat × Option FieldType × Nat × Nat × Nat := (⟨"TwoCamps", "least", "(II)I"⟩, prog_1_method_19_code, 3, (Option.some FieldType.int), 1, 2, 11)
def aI_19 : MethodName × ByteArray × Nat × Option FieldType × Nat × Nat × Nat := (⟨"TwoCamps", "back", "(I)I"⟩, prog_1_method_20_code, 2, (Option.some FieldType.int), 1, 1, 11)
def aI_20 : MethodName × ByteArray × Nat × Option FieldType × Nat × Nat × Nat := (⟨"TwoCamps", "row", "(I)I"⟩, prog_1_method_21_code, 2, (Option.some FieldType.int), 1, 1, 11)
def aI_21 : MethodName × ByteArray × Nat × Option FieldType × Nat × Nat × Nat := (⟨"TwoCamps", "parts", "(III)I"⟩, prog_1_method_22_code, 4, (Option.some FieldType.int), 1, 3, 11)
def aI_22 : MethodName × ByteArray × Nat × Option FieldType × Nat × Nat × Nat := (⟨"TwoCamps", "told", "(II)Z"⟩, prog_1_method_23_code, 3, (Option.some FieldType.boolean), 2, 2, 11)
def aI_23 : MethodName × ByteArray × Nat × Option FieldType × Nat × Nat × Nat := (⟨"TwoCamps", "off", "(II)I"⟩, prog_1_method_24_code, 3, (Option.some FieldType.int), 1, 2, 11)
def aI_24 : MethodName × ByteArray × Nat × Option FieldType × Nat × Nat × Nat := (⟨"TwoCamps", "fitting", "(I)I"⟩, prog_1_method_25_code, 5, (Option.some FieldType.int), 1, 1, 11)
def aI_25 : MethodName × ByteArray × Nat × Option FieldType × Nat × Nat × Nat := (⟨"TwoCamps", "number", "(II)Z"⟩, prog_1_method_26_code, 3, (Option.some FieldType.boolean), 2, 2, 11)
def aI_26 : MethodName × ByteArray × Nat × Option FieldType × Nat × Nat × Nat := (⟨"TwoCamps", "cut", "(I)I"⟩, prog_1_method_27_code, 4, (Option.some FieldType.int), 1, 1, 11)
def aI_27 : MethodName × ByteArray × Nat × Option FieldType × Nat × Nat × Nat := (⟨"TwoCamps", "woods", "(II)I"⟩, prog_1_method_28_code, 4, (Option.some FieldType.int), 1, 2, 11)
def aI_28 : MethodName × ByteArray × Nat × Option FieldType × Nat × Nat × Nat := (⟨"TwoCamps", "image", "(Z)Z"⟩, prog_1_method_29_code, 2, (Option.some FieldType.boolean), 2, 1, 11)
def aI_29 : MethodName × ByteArray × Nat × Option FieldType × Nat × Nat × Nat := (⟨"TwoCamps", "look", "(I)I"⟩, prog_1_method_30_code, 3, (Option.some FieldType.int), 1, 1, 11)
def aI_30 : MethodName × ByteArray × Nat × Option FieldType × Nat × Nat × Nat := (⟨"TwoCamps", "goThrough", "(III)I"⟩, prog_1_method_31_code, 6, (Option.some FieldType.int), 1, 3, 11)
def aI_31 : MethodName × ByteArray × Nat × Option FieldType × Nat × Nat × Nat := (⟨"TwoCamps", "ofFriends", "(II)I"⟩, prog_1_method_32_code, 6, (Option.some FieldType.int), 1, 2, 11)
def aI_32 : MethodName × ByteArray × Nat × Option FieldType × Nat × Nat × Nat := (⟨"TwoCamps", "isLot", "(I)Z"⟩, prog_1_method_33_code, 1, (Option.some FieldType.boolean), 2, 1, 100)
def aI_33 : MethodName × ByteArray × Nat × Option FieldType × Nat × Nat × Nat := (⟨"TwoCamps", "isText", "(I)Z"⟩, prog_1_method_34_code, 1, (Option.some FieldType.boolean), 2, 1, 100)
def aI_34 : MethodName × ByteArray × Nat × Option FieldType × Nat × Nat × Nat := (⟨"TwoCamps", "isKind", "(I)Z"⟩, prog_1_method_35_code, 1, (Option.some FieldType.boolean), 2, 1, 100)
def aI_35 : MethodName × ByteArray × Nat × Option FieldType × Nat × Nat × Nat := (⟨"TwoCamps", "isLike", "(I)Z"⟩, prog_1_method_36_code, 1, (Option.some FieldType.boolean), 2, 1, 100)
def aI_36 : MethodName × ByteArray × Nat × Option FieldType × Nat × Nat × Nat := (⟨"TwoCamps", "isBeans", "(I)Z"⟩, prog_1_method_37_code, 1, (Option.some FieldType.boolean), 2, 1, 100)
def aI_37 : MethodName × ByteArray × Nat × Option FieldType × Nat × Nat × Nat := (⟨"TwoCamps", "has", "(II)Z"⟩, prog_1_method_38_code, 2, (Option.some FieldType.boolean), 2, 2, 100)
def aI_38 : MethodName × ByteArray × Nat × Option FieldType × Nat × Nat × Nat := (⟨"TwoCamps", "mean", "(II)I"⟩, prog_1_method_39_code, 2, (Option.some FieldType.int), 1, 2, 100)
def aI_39 : MethodName × ByteArray × Nat × Option FieldType × Nat × Nat × Nat := (⟨"TwoCamps", "held", "(JII)I"⟩, prog_1_method_40_code, 4, (Option.some FieldType.int), 1, 3, 100)
def aI_40 : MethodName × ByteArray × Nat × Option FieldType × Nat × Nat × Nat := (⟨"TwoCamps", "waysOfAtMost", "(II)J"⟩, prog_1_method_41_code, 7, (Option.some FieldType.long), 3, 2, 100)
def aI_41 : MethodName × ByteArray × Nat × Option FieldType × Nat × Nat × Nat := (⟨"TwoCampsModel", "<init>", "()V"⟩, prog_14_method_1_code, 1, none, 0, 0, 12)
def aI_42 : MethodName × ByteArray × Nat × Option FieldType × Nat × Nat × Nat := (⟨"TwoCampsModel", "isIn", "(III)Z"⟩, prog_14_method_3_code, 4, (Option.some FieldType.boolean), 2, 3, 12)
def aI_43 : MethodName × ByteArray × Nat × Option FieldType × Nat × Nat × Nat := (⟨"TwoCampsModel", "floor", "(II)I"⟩, prog_14_method_4_code, 4, (Option.some FieldType.int), 1, 2, 12)
def aI_44 : MethodName × ByteArray × Nat × Option FieldType × Nat × Nat × Nat := (⟨"TwoCampsModel", "size", "(I)I"⟩, prog_14_method_5_code, 2, (Option.some FieldType.int), 1, 1, 12)
def aI_45 : MethodName × ByteArray × Nat × Option FieldType × Nat × Nat × Nat := (⟨"TwoCampsModel", "isBoy", "(I)Z"⟩, prog_14_method_6_code, 2, (Option.some FieldType.boolean), 2, 1, 12)
def aI_46 : MethodName × ByteArray × Nat × Option FieldType × Nat × Nat × Nat := (⟨"TwoCampsModel", "isLot", "(I)Z"⟩, prog_14_method_7_code, 2, (Option.some FieldType.boolean), 2, 1, 12)
def aI_47 : MethodName × ByteArray × Nat × Option FieldType × Nat × Nat × Nat := (⟨"TwoCampsModel", "boy", "(II)I"⟩, prog_14_method_8_code, 3, (Option.some FieldType.int), 1, 2, 12)
def aI_48 : MethodName × ByteArray × Nat × Option FieldType × Nat × Nat × Nat := (⟨"TwoCampsModel", "like", "(III)Z"⟩, prog_14_method_9_code, 4, (Option.some FieldType.boolean), 2, 3, 12)
def aI_49 : MethodName × ByteArray × Nat × Option FieldType × Nat × Nat × Nat := (⟨"TwoCampsModel", "knew", "(IIZ)Z"⟩, prog_14_method_10_code, 4, (Option.some FieldType.boolean), 2, 3, 12)
def aI_50 : MethodName × ByteArray × Nat × Option FieldType × Nat × Nat × Nat := (⟨"TwoCampsModel", "state", "(I)I"⟩, prog_14_method_11_code, 3, (Option.some FieldType.int), 1, 1, 12)
def aI_51 : MethodName × ByteArray × Nat × Option FieldType × Nat × Nat × Nat := (⟨"TwoCampsModel", "draw", "(I)I"⟩, prog_14_method_12_code, 2, (Option.some FieldType.int), 1, 1, 12)
def aI_52 : MethodName × ByteArray × Nat × Option FieldType × Nat × Nat × Nat := (⟨"TwoCampsModel", "number", "(II)Z"⟩, prog_14_method_13_code, 3, (Option.some FieldType.boolean), 2, 2, 12)
def aI_53 : MethodName × ByteArray × Nat × Option FieldType × Nat × Nat × Nat := (⟨"TwoCampsModel", "sizeOf", "(I)I"⟩, prog_14_method_14_code, 4, (Option.some FieldType.int), 1, 1, 12)
def aI_54 : MethodName × ByteArray × Nat × Option FieldType × Nat × Nat × Nat := (⟨"TwoCampsModel", "meanOf", "(II)I"⟩, prog_14_method_15_code, 7, (Option.some FieldType.int), 1, 2, 12)
def aI_55 : MethodName × ByteArray × Nat × Option FieldType × Nat × Nat × Nat := (⟨"TwoCampsModel", "cross", "()I"⟩, prog_14_method_16_code, 5, (Option.some FieldType.int), 1, 0, 12)
def aI_56 : MethodName × ByteArray × Nat × Option FieldType × Nat × Nat × Nat := (⟨"TwoCampsModel", "meanFor", "(II)I"⟩, prog_14_method_17_code, 6, (Option.some FieldType.int), 1, 2, 12)
def aI_57 : MethodName × ByteArray × Nat × Option FieldType × Nat × Nat × Nat := (⟨"TwoCampsModel", "puts", "(I)V"⟩, prog_14_method_18_code, 3, none, 0, 1, 12)
def aI_58 : MethodName × ByteArray × Nat × Option FieldType × Nat × Nat × Nat := (⟨"TwoCampsModel", "feed", "(IIIII)I"⟩, prog_14_method_19_code, 6, (Option.some FieldType.int), 1, 5, 12)
def aI_59 : MethodName × ByteArray × Nat × Option FieldType × Nat × Nat × Nat := (⟨"TwoCampsModel", "end", "(I)Z"⟩, prog_14_method_20_code, 2, (Option.some FieldType.boolean), 2, 1, 12)
def aI_60 : MethodName × ByteArray × Nat × Option FieldType × Nat × Nat × Nat := (⟨"TwoCampsModel", "raw", "(I)I"⟩, prog_14_method_21_code, 2, (Option.some FieldType.int), 1, 1, 12)
def aI_61 : MethodName × ByteArray × Nat × Option FieldType × Nat × Nat × Nat := (⟨"TwoCampsModel", "isLetter", "(I)Z"⟩, prog_14_method_22_code, 2, (Option.some FieldType.boolean), 2, 1, 12)
def aI_62 : MethodName × ByteArray × Nat × Option FieldType × Nat × Nat × Nat := (⟨"TwoCampsModel", "isDigit", "(I)Z"⟩, prog_14_method_23_code, 2, (Option.some FieldType.boolean), 2, 1, 12)
def aI_63 : MethodName × ByteArray × Nat × Option FieldType × Nat × Nat × Nat := (⟨"TwoCampsModel", "isMarkSign", "(I)Z"⟩, prog_14_method_24_code, 2, (Option.some FieldType.boolean), 2, 1, 12)
def aI_64 : MethodName × ByteArray × Nat × Option FieldType × Nat × Nat × Nat := (⟨"TwoCampsModel", "wordAt", "(II)I"⟩, prog_14_method_25_code, 6, (Option.some FieldType.int), 1, 2, 12)
def aI_65 : MethodName × ByteArray × Nat × Option FieldType × Nat × Nat × Nat := (⟨"TwoCampsModel", "reads", "()V"⟩, prog_14_method_26_code, 2, none, 0, 0, 12)
def aI_66 : MethodName × ByteArray × Nat × Option FieldType × Nat × Nat × Nat := (⟨"TwoCampsModel", "fails", "(I)I"⟩, prog_14_method_27_code, 2, (Option.some FieldType.int), 1, 1, 12)
def aI_67 : MethodName × ByteArray × Nat × Option FieldType × Nat × Nat × Nat := (⟨"TwoCampsModel", "isWord", "(I)Z"⟩, prog_14_method_28_code, 2, (Option.some FieldType.boolean), 2, 1, 12)
def aI_68 : MethodName × ByteArray × Nat × Option FieldType × Nat × Nat × Nat := (⟨"TwoCampsModel", "isSign", "(I)Z"⟩, prog_14_method_29_code, 2, (Option.some FieldType.boolean), 2, 1, 12)
def aI_69 : MethodName × ByteArray × Nat × Option FieldType × Nat × Nat × Nat := (⟨"TwoCampsModel", "emits", "(II)V"⟩, prog_14_method_30_code, 3, none, 0, 2, 12)
def aI_70 : MethodName × ByteArray × Nat × Option FieldType × Nat × Nat × Nat := (⟨"TwoCampsModel", "readUnit", "()I"⟩, prog_14_method_31_code, 2, (Option.some FieldType.int), 1, 0, 12)
def aI_71 : MethodName × ByteArray × Nat × Option FieldType × Nat × Nat × Nat := (⟨"TwoCampsModel", "readProduct", "()I"⟩, prog_14_method_32_code, 2, (Option.some FieldType.int), 1, 0, 12)
def aI_72 : MethodName × ByteArray × Nat × Option FieldType × Nat × Nat × Nat := (⟨"TwoCampsModel", "readSum", "()I"⟩, prog_14_method_33_code, 2, (Option.some FieldType.int), 1, 0, 12)
def aI_73 : MethodName × ByteArray × Nat × Option FieldType × Nat × Nat × Nat := (⟨"TwoCampsModel", "readCompared", "()I"⟩, prog_14_method_34_code, 2, (Option.some FieldType.int), 1, 0, 12)
def aI_74 : MethodName × ByteArray × Nat × Option FieldType × Nat × Nat × Nat := (⟨"TwoCampsModel", "waits", "(I)V"⟩, prog_14_method_35_code, 2, none, 0, 1, 12)
def aI_75 : MethodName × ByteArray × Nat × Option FieldType × Nat × Nat × Nat := (⟨"TwoCampsModel", "settles", "(I)V"⟩, prog_14_method_36_code, 2, none, 0, 1, 12)
def aI_76 : MethodName × ByteArray × Nat × Option FieldType × Nat × Nat × Nat := (⟨"TwoCampsModel", "readAny", "()I"⟩, prog_14_method_37_code, 4, (Option.some FieldType.int), 1, 0, 12)
def aI_77 : MethodName × ByteArray × Nat × Option FieldType × Nat × Nat × Nat := (⟨"TwoCampsModel", "readLaw", "()I"⟩, prog_14_method_38_code, 3, (Option.some FieldType.int), 1, 0, 12)
def aI_78 : MethodName × ByteArray × Nat × Option FieldType × Nat × Nat × Nat := (⟨"TwoCampsModel", "takesLaw", "(II)V"⟩, prog_14_method_39_code, 4, none, 0, 2, 12)
def aI_79 : MethodName × ByteArray × Nat × Option FieldType × Nat × Nat × Nat := (⟨"TwoCampsModel", "readPlan", "()I"⟩, prog_14_method_40_code, 3, (Option.some FieldType.int), 1, 0, 12)
def aI_80 : MethodName × ByteArray × Nat × Option FieldType × Nat × Nat × Nat := (⟨"TwoCampsModel", "takesPlan", "(II)V"⟩, prog_14_method_41_code, 4, none, 0, 2, 12)
def aI_81 : MethodName × ByteArray × Nat × Option FieldType × Nat × Nat × Nat := (⟨"TwoCampsModel", "text", "(II)I"⟩, prog_14_method_42_code, 5, (Option.some FieldType.int), 1, 2, 12)
def aI_82 : MethodName × ByteArray × Nat × Option FieldType × Nat × Nat × Nat := (⟨"TwoCampsModel", "fault", "(I)I"⟩, prog_14_method_43_code, 2, (Option.some FieldType.int), 1, 1, 12)
def aI_83 : MethodName × ByteArray × Nat × Option FieldType × Nat × Nat × Nat := (⟨"TwoCampsModel", "twoOf", "(III)I"⟩, prog_14_method_44_code, 4, (Option.some FieldType.int), 1, 3, 12)
def aI_84 : MethodName × ByteArray × Nat × Option FieldType × Nat × Nat × Nat := (⟨"TwoCampsModel", "worth", "(III)I"⟩, prog_14_method_45_code, 6, (Option.some FieldType.int), 1, 3, 12)
def aI_85 : MethodName × ByteArray × Nat × Option FieldType × Nat × Nat × Nat := (⟨"TwoCampsModel", "tells", "(I)I"⟩, prog_14_method_46_code, 3, (Option.some FieldType.int), 1, 1, 12)
def aI_86 : MethodName × ByteArray × Nat × Option FieldType × Nat × Nat × Nat := (⟨"TwoCampsModel", "asksDay", "(I)V"⟩, prog_14_method_47_code, 3, none, 0, 1, 12)
def aI_87 : MethodName × ByteArray × Nat × Option FieldType × Nat × Nat × Nat := (⟨"TwoCampsModel", "tellsCouple", "(III)I"⟩, prog_14_method_48_code, 4, (Option.some FieldType.int), 1, 3, 12)
def aI_88 : MethodName × ByteArray × Nat × Option FieldType × Nat × Nat × Nat := (⟨"TwoCampsModel", "tellsLot", "(II)I"⟩, prog_14_method_49_code, 3, (Option.some FieldType.int), 1, 2, 12)
def aI_89 : MethodName × ByteArray × Nat × Option FieldType × Nat × Nat × Nat := (⟨"TwoCampsModel", "tellsHome", "(I)I"⟩, prog_14_method_50_code, 2, (Option.some FieldType.int), 1, 1, 12)
def aI_90 : MethodName × ByteArray × Nat × Option FieldType × Nat × Nat × Nat := (⟨"TwoCampsModel", "scoreOf", "(I)I"⟩, prog_14_method_51_code, 4, (Option.some FieldType.int), 1, 1, 12)
def aI_91 : MethodName × ByteArray × Nat × Option FieldType × Nat × Nat × Nat := (⟨"TwoCampsModel", "plays", "()V"⟩, prog_14_method_52_code, 3, none, 0, 0, 12)
def aI_92 : MethodName × ByteArray × Nat × Option FieldType × Nat × Nat × Nat := (⟨"TwoCampsModel", "likes", "()V"⟩, prog_14_method_53_code, 5, none, 0, 0, 12)
def aI_93 : MethodName × ByteArray × Nat × Option FieldType × Nat × Nat × Nat := (⟨"TwoCampsModel", "fights", "()V"⟩, prog_14_method_54_code, 4, none, 0, 0, 12)
def aI_94 : MethodName × ByteArray × Nat × Option FieldType × Nat × Nat × Nat := (⟨"TwoCampsModel", "goHome", "()V"⟩, prog_14_method_55_code, 2, none, 0, 0, 12)
def aI_95 : MethodName × ByteArray × Nat × Option FieldType × Nat × Nat × Nat := (⟨"TwoCampsModel", "names", "()V"⟩, prog_14_method_56_code, 2, none, 0, 0, 12)
def aI_96 : MethodName × ByteArray × Nat × Option FieldType × Nat × Nat × Nat := (⟨"TwoCampsModel", "findsFriends", "(I)V"⟩, prog_14_method_57_code, 5, none, 0, 1, 12)
def aI_97 : MethodName × ByteArray × Nat × Option FieldType × Nat × Nat × Nat := (⟨"TwoCampsModel", "friendsAcross", "(I)I"⟩, prog_14_method_58_code, 4, (Option.some FieldType.int), 1, 1, 12)
def aI_98 : MethodName × ByteArray × Nat × Option FieldType × Nat × Nat × Nat := (⟨"TwoCampsModel", "isFriend", "(II)Z"⟩, prog_14_method_59_code, 3, (Option.some FieldType.boolean), 2, 2, 12)
def aI_99 : MethodName × ByteArray × Nat × Option FieldType × Nat × Nat × Nat := (⟨"TwoCampsModel", "stayLoyal", "()V"⟩, prog_14_method_60_code, 2, none, 0, 0, 12)
def aI_100 : MethodName × ByteArray × Nat × Option FieldType × Nat × Nat × Nat := (⟨"TwoCampsModel", "keeps", "()V"⟩, prog_14_method_61_code, 2, none, 0, 0, 12)
def aI_101 : MethodName × ByteArray × Nat × Option FieldType × Nat × Nat × Nat := (⟨"TwoCampsModel", "goesBy", "(III)V"⟩, prog_14_method_62_code, 4, none, 0, 3, 12)
def aI_102 : MethodName × ByteArray × Nat × Option FieldType × Nat × Nat × Nat := (⟨"TwoCampsModel", "fightersNow", "()I"⟩, prog_14_method_63_code, 1, (Option.some FieldType.int), 1, 0, 12)
def aI_103 : MethodName × ByteArray × Nat × Option FieldType × Nat × Nat × Nat := (⟨"TwoCampsModel", "force", "(I)I"⟩, prog_14_method_64_code, 3, (Option.some FieldType.int), 1, 1, 12)
def aI_104 : MethodName × ByteArray × Nat × Option FieldType × Nat × Nat × Nat := (⟨"TwoCampsModel", "day", "(III)I"⟩, prog_14_method_65_code, 4, (Option.some FieldType.int), 1, 3, 12)
def aI_105 : MethodName × ByteArray × Nat × Option FieldType × Nat × Nat × Nat := (⟨"TwoCampsModel", "leads", "(IZ)V"⟩, prog_14_method_66_code, 5, none, 0, 2, 12)
def aI_106 : MethodName × ByteArray × Nat × Option FieldType × Nat × Nat × Nat := (⟨"TwoCampsModel", "plan", "(I)I"⟩, prog_14_method_67_code, 2, (Option.some FieldType.int), 1, 1, 12)
def aI_107 : MethodName × ByteArray × Nat × Option FieldType × Nat × Nat × Nat := (⟨"TwoCampsModel", "putAside", "(I)I"⟩, prog_14_method_68_code, 2, (Option.some FieldType.int), 1, 1, 12)
def aI_108 : MethodName × ByteArray × Nat × Option FieldType × Nat × Nat × Nat := (⟨"TwoCampsModel", "asides", "(Z)V"⟩, prog_14_method_69_code, 3, none, 0, 1, 12)
def aI_109 : MethodName × ByteArray × Nat × Option FieldType × Nat × Nat × Nat := (⟨"TwoCampsModel", "isLaw", "(I)Z"⟩, prog_14_method_70_code, 2, (Option.some FieldType.boolean), 2, 1, 12)
def aI_110 : MethodName × ByteArray × Nat × Option FieldType × Nat × Nat × Nat := (⟨"TwoCampsModel", "led", "(IIZI)I"⟩, prog_14_method_71_code, 6, (Option.some FieldType.int), 1, 4, 12)
def aI_111 : MethodName × ByteArray × Nat × Option FieldType × Nat × Nat × Nat := (⟨"TwoCampsModel", "least", "(II)I"⟩, prog_14_method_72_code, 5, (Option.some FieldType.int), 1, 2, 12)
def aI_112 : MethodName × ByteArray × Nat × Option FieldType × Nat × Nat × Nat := (⟨"TwoCampsModel", "back", "(I)I"⟩, prog_14_method_73_code, 4, (Option.some FieldType.int), 1, 1, 12)
def aI_113 : MethodName × ByteArray × Nat × Option FieldType × Nat × Nat × Nat := (⟨"TwoCampsModel", "row", "(I)I"⟩, prog_14_method_74_code, 2, (Option.some FieldType.int), 1, 1, 12)
def aI_114 : MethodName × ByteArray × Nat × Option FieldType × Nat × Nat × Nat := (⟨"TwoCampsModel", "crossBy", "(I)I"⟩, prog_14_method_75_code, 3, (Option.some FieldType.int), 1, 1, 12)
def aI_115 : MethodName × ByteArray × Nat × Option FieldType × Nat × Nat × Nat := (⟨"TwoCampsModel", "goesOn", "()Z"⟩, prog_14_method_76_code, 6, (Option.some FieldType.boolean), 2, 0, 12)
def aI_116 : MethodName × ByteArray × Nat × Option FieldType × Nat × Nat × Nat := (⟨"TwoCampsModel", "parts", "(III)I"⟩, prog_14_method_77_code, 8, (Option.some FieldType.int), 1, 3, 12)
def aI_117 : MethodName × ByteArray × Nat × Option FieldType × Nat × Nat × Nat := (⟨"TwoCampsModel", "told", "(II)Z"⟩, prog_14_method_78_code, 3, (Option.some FieldType.boolean), 2, 2, 12)
def aI_118 : MethodName × ByteArray × Nat × Option FieldType × Nat × Nat × Nat := (⟨"TwoCampsModel", "offBy", "(II)I"⟩, prog_14_method_79_code, 3, (Option.some FieldType.int), 1, 2, 12)
def aI_119 : MethodName × ByteArray × Nat × Option FieldType × Nat × Nat × Nat := (⟨"TwoCampsModel", "off", "(II)I"⟩, prog_14_method_80_code, 3, (Option.some FieldType.int), 1, 2, 12)
def aI_120 : MethodName × ByteArray × Nat × Option FieldType × Nat × Nat × Nat := (⟨"TwoCampsModel", "fitting", "(I)I"⟩, prog_14_method_81_code, 6, (Option.some FieldType.int), 1, 1, 12)
def aI_121 : MethodName × ByteArray × Nat × Option FieldType × Nat × Nat × Nat := (⟨"TwoCampsModel", "of", "(II)I"⟩, prog_14_method_82_code, 5, (Option.some FieldType.int), 1, 2, 12)
def aI_122 : MethodName × ByteArray × Nat × Option FieldType × Nat × Nat × Nat := (⟨"TwoCampsModel", "lot", "(II)I"⟩, prog_14_method_83_code, 5, (Option.some FieldType.int), 1, 2, 12)
def aI_123 : MethodName × ByteArray × Nat × Option FieldType × Nat × Nat × Nat := (⟨"TwoCampsModel", "kept", "(II)I"⟩, prog_14_method_84_code, 3, (Option.some FieldType.int), 1, 2, 12)
def aI_124 : MethodName × ByteArray × Nat × Option FieldType × Nat × Nat × Nat := (⟨"TwoCampsModel", "beansOf", "(III)I"⟩, prog_14_method_85_code, 6, (Option.some FieldType.int), 1, 3, 12)
def aI_125 : MethodName × ByteArray × Nat × Option FieldType × Nat × Nat × Nat := (⟨"TwoCampsModel", "isHere", "(I)Z"⟩, prog_14_method_86_code, 2, (Option.some FieldType.boolean), 2, 1, 12)
def aI_126 : MethodName × ByteArray × Nat × Option FieldType × Nat × Nat × Nat := (⟨"TwoCampsModel", "beans", "(III)I"⟩, prog_14_method_87_code, 4, (Option.some FieldType.int), 1, 3, 12)
def aI_127 : MethodName × ByteArray × Nat × Option FieldType × Nat × Nat × Nat := (⟨"TwoCampsModel", "meanSeen", "(IZ)I"⟩, prog_14_method_88_code, 7, (Option.some FieldType.int), 1, 2, 12)
def aI_128 : MethodName × ByteArray × Nat × Option FieldType × Nat × Nat × Nat := (⟨"TwoCampsModel", "seen", "(II)I"⟩, prog_14_method_89_code, 3, (Option.some FieldType.int), 1, 2, 12)
def aI_129 : MethodName × ByteArray × Nat × Option FieldType × Nat × Nat × Nat := (⟨"TwoCampsModel", "countsWays", "()V"⟩, prog_14_method_90_code, 5, none, 0, 0, 12)
def aI_130 : MethodName × ByteArray × Nat × Option FieldType × Nat × Nat × Nat := (⟨"TwoCampsModel", "cut", "(I)I"⟩, prog_14_method_91_code, 7, (Option.some FieldType.int), 1, 1, 12)
def aI_131 : MethodName × ByteArray × Nat × Option FieldType × Nat × Nat × Nat := (⟨"TwoCampsModel", "woods", "(II)I"⟩, prog_14_method_92_code, 9, (Option.some FieldType.int), 1, 2, 12)
def aI_132 : MethodName × ByteArray × Nat × Option FieldType × Nat × Nat × Nat := (⟨"TwoCampsModel", "imaged", "(I)I"⟩, prog_14_method_93_code, 2, (Option.some FieldType.int), 1, 1, 12)
def aI_133 : MethodName × ByteArray × Nat × Option FieldType × Nat × Nat × Nat := (⟨"TwoCampsModel", "imagesTexts", "()V"⟩, prog_14_method_94_code, 2, none, 0, 0, 12)
def aI_134 : MethodName × ByteArray × Nat × Option FieldType × Nat × Nat × Nat := (⟨"TwoCampsModel", "imagesBoys", "()V"⟩, prog_14_method_95_code, 2, none, 0, 0, 12)
def aI_135 : MethodName × ByteArray × Nat × Option FieldType × Nat × Nat × Nat := (⟨"TwoCampsModel", "image", "(Z)Z"⟩, prog_14_method_96_code, 3, (Option.some FieldType.boolean), 2, 1, 12)
def aI_136 : MethodName × ByteArray × Nat × Option FieldType × Nat × Nat × Nat := (⟨"TwoCampsModel", "look", "(I)I"⟩, prog_14_method_97_code, 4, (Option.some FieldType.int), 1, 1, 12)
def aI_137 : MethodName × ByteArray × Nat × Option FieldType × Nat × Nat × Nat := (⟨"TwoCamps$Course", "<init>", "()V"⟩, prog_2_method_1_code, 1, none, 0, 0, 0)
def aI_138 : MethodName × ByteArray × Nat × Option FieldType × Nat × Nat × Nat := (⟨"TwoCamps$Course", "goBy", "(LTwoCamps$Wood;LTwoCamps$Law;III)I"⟩, prog_2_method_2_code, 6, (Option.some FieldType.int), 1, 5, 0)
def aI_139 : MethodName × ByteArray × Nat × Option FieldType × Nat × Nat × Nat := (⟨"TwoCamps$Course", "begin", "(LTwoCamps$Wood;III)V"⟩, prog_2_method_3_code, 5, none, 0, 4, 0)
def aI_140 : MethodName × ByteArray × Nat × Option FieldType × Nat × Nat × Nat := (⟨"TwoCamps$Course", "compete", "(LTwoCamps$Wood;)V"⟩, prog_2_method_4_code, 4, none, 0, 1, 0)
def aI_141 : MethodName × ByteArray × Nat × Option FieldType × Nat × Nat × Nat := (⟨"TwoCamps$Course", "changeLikes", "(LTwoCamps$Wood;LTwoCamps$Law;)V"⟩, prog_2_method_5_code, 7, none, 0, 2, 0)
def aI_142 : MethodName × ByteArray × Nat × Option FieldType × Nat × Nat × Nat := (⟨"TwoCamps$Course", "changed", "(LTwoCamps$Wood;LTwoCamps$Law;II)I"⟩, prog_2_method_6_code, 7, (Option.some FieldType.int), 1, 4, 0)
def aI_143 : MethodName × ByteArray × Nat × Option FieldType × Nat × Nat × Nat := (⟨"TwoCamps$Course", "letFight", "(LTwoCamps$Wood;LTwoCamps$Law;I)V"⟩, prog_2_method_7_code, 5, none, 0, 3, 0)
def aI_144 : MethodName × ByteArray × Nat × Option FieldType × Nat × Nat × Nat := (⟨"TwoCamps$Course", "sendHome", "(LTwoCamps$Wood;LTwoCamps$Law;)V"⟩, prog_2_method_8_code, 5, none, 0, 2, 0)
def aI_145 : MethodName × ByteArray × Nat × Option FieldType × Nat × Nat × Nat := (⟨"TwoCamps$Course", "giveName", "(LTwoCamps$Wood;LTwoCamps$Law;I)V"⟩, prog_2_method_9_code, 4, none, 0, 3, 0)
def aI_146 : MethodName × ByteArray × Nat × Option FieldType × Nat × Nat × Nat := (⟨"TwoCamps$Cut", "<init>", "()V"⟩, prog_3_method_1_code, 1, none, 0, 0, 1)
def aI_147 : MethodName × ByteArray × Nat × Option FieldType × Nat × Nat × Nat := (⟨"TwoCamps$Cut", "allWays", "(LTwoCamps$Wood;)I"⟩, prog_3_method_2_code, 7, (Option.some FieldType.int), 1, 1, 1)
def aI_148 : MethodName × ByteArray × Nat × Option FieldType × Nat × Nat × Nat := (⟨"TwoCamps$Cut", "asGreat", "(LTwoCamps$Wood;[II)I"⟩, prog_3_method_3_code, 6, (Option.some FieldType.int), 1, 3, 1)
def aI_149 : MethodName × ByteArray × Nat × Option FieldType × Nat × Nat × Nat := (⟨"TwoCamps$Cut", "sumOf", "(I[I)I"⟩, prog_3_method_4_code, 4, (Option.some FieldType.int), 1, 2, 100)
def aI_150 : MethodName × ByteArray × Nat × Option FieldType × Nat × Nat × Nat := (⟨"TwoCamps$Cut", "atMost", "(I[III)I"⟩, prog_3_method_5_code, 7, (Option.some FieldType.int), 1, 4, 1)
def aI_151 : MethodName × ByteArray × Nat × Option FieldType × Nat × Nat × Nat := (⟨"TwoCamps$Cut", "addBoy", "(III)V"⟩, prog_3_method_6_code, 6, none, 0, 3, 1)
def aI_152 : MethodName × ByteArray × Nat × Option FieldType × Nat × Nat × Nat := (⟨"TwoCamps$Law", "<init>", "()V"⟩, prog_4_method_1_code, 1, none, 0, 0, 2)
def aI_153 : MethodName × ByteArray × Nat × Option FieldType × Nat × Nat × Nat := (⟨"TwoCamps$Law", "copyFrom", "(LTwoCamps$Law;)V"⟩, prog_4_method_2_code, 2, none, 0, 1, 2)
def aI_154 : MethodName × ByteArray × Nat × Option FieldType × Nat × Nat × Nat := (⟨"TwoCamps$Law", "clear", "()V"⟩, prog_4_method_3_code, 1, none, 0, 0, 2)
def aI_155 : MethodName × ByteArray × Nat × Option FieldType × Nat × Nat × Nat := (⟨"TwoCamps$Law", "putStep", "(I)V"⟩, prog_4_method_4_code, 2, none, 0, 1, 2)
def aI_156 : MethodName × ByteArray × Nat × Option FieldType × Nat × Nat × Nat := (⟨"TwoCamps$Law", "endLine", "(III)V"⟩, prog_4_method_5_code, 4, none, 0, 3, 2)
def aI_157 : MethodName × ByteArray × Nat × Option FieldType × Nat × Nat × Nat := (⟨"TwoCamps$Law", "tells", "(I[II)I"⟩, prog_4_method_6_code, 6, (Option.some FieldType.int), 1, 3, 2)
def aI_158 : MethodName × ByteArray × Nat × Option FieldType × Nat × Nat × Nat := (⟨"TwoCamps$Law", "worked", "(II[I)I"⟩, prog_4_method_7_code, 8, (Option.some FieldType.int), 1, 3, 2)
def aI_159 : MethodName × ByteArray × Nat × Option FieldType × Nat × Nat × Nat := (⟨"TwoCamps$Law", "joined", "(III)I"⟩, prog_4_method_8_code, 3, (Option.some FieldType.int), 1, 3, 100)
def aI_160 : MethodName × ByteArray × Nat × Option FieldType × Nat × Nat × Nat := (⟨"TwoCamps$Plan", "<init>", "()V"⟩, prog_5_method_1_code, 1, none, 0, 0, 3)
def aI_161 : MethodName × ByteArray × Nat × Option FieldType × Nat × Nat × Nat := (⟨"TwoCamps$Plan", "copyFrom", "(LTwoCamps$Plan;)V"⟩, prog_5_method_2_code, 2, none, 0, 1, 3)
def aI_162 : MethodName × ByteArray × Nat × Option FieldType × Nat × Nat × Nat := (⟨"TwoCamps$Plan", "clear", "()V"⟩, prog_5_method_3_code, 1, none, 0, 0, 3)
def aI_163 : MethodName × ByteArray × Nat × Option FieldType × Nat × Nat × Nat := (⟨"TwoCamps$Plan", "addDay", "(II)V"⟩, prog_5_method_4_code, 3, none, 0, 2, 3)
def aI_164 : MethodName × ByteArray × Nat × Option FieldType × Nat × Nat × Nat := (⟨"TwoCamps$Question", "<init>", "()V"⟩, prog_6_method_1_code, 1, none, 0, 0, 4)
def aI_165 : MethodName × ByteArray × Nat × Option FieldType × Nat × Nat × Nat := (⟨"TwoCamps$Question", "askOfDay", "(LTwoCamps$Wood;I)V"⟩, prog_6_method_2_code, 3, none, 0, 2, 4)
def aI_166 : MethodName × ByteArray × Nat × Option FieldType × Nat × Nat × Nat := (⟨"TwoCamps$Question", "askOfCouple", "(LTwoCamps$Wood;II)V"⟩, prog_6_method_3_code, 4, none, 0, 3, 4)
def aI_167 : MethodName × ByteArray × Nat × Option FieldType × Nat × Nat × Nat := (⟨"TwoCamps$Question", "askOfLot", "(LTwoCamps$Wood;I)V"⟩, prog_6_method_4_code, 4, none, 0, 2, 4)
def aI_168 : MethodName × ByteArray × Nat × Option FieldType × Nat × Nat × Nat := (⟨"TwoCamps$Question", "askOfBoy", "(LTwoCamps$Wood;I)V"⟩, prog_6_method_5_code, 5, none, 0, 2, 4)
def aI_169 : MethodName × ByteArray × Nat × Option FieldType × Nat × Nat × Nat := (⟨"TwoCamps$Reader", "<init>", "(LTwoCamps$Tape;)V"⟩, prog_7_method_1_code, 2, none, 0, 1, 5)
def aI_170 : MethodName × ByteArray × Nat × Option FieldType × Nat × Nat × Nat := (⟨"TwoCamps$Reader", "begin", "()V"⟩, prog_7_method_2_code, 1, none, 0, 0, 5)
def aI_171 : MethodName × ByteArray × Nat × Option FieldType × Nat × Nat × Nat := (⟨"TwoCamps$Reader", "token", "()I"⟩, prog_7_method_3_code, 1, (Option.some FieldType.int), 1, 0, 5)
def aI_172 : MethodName × ByteArray × Nat × Option FieldType × Nat × Nat × Nat := (⟨"TwoCamps$Reader", "value", "()I"⟩, prog_7_method_4_code, 1, (Option.some FieldType.int), 1, 0, 5)
def aI_173 : MethodName × ByteArray × Nat × Option FieldType × Nat × Nat × Nat := (⟨"TwoCamps$Reader", "fail", "(I)Z"⟩, prog_7_method_5_code, 2, (Option.some FieldType.boolean), 2, 1, 5)
def aI_174 : MethodName × ByteArray × Nat × Option FieldType × Nat × Nat × Nat := (⟨"TwoCamps$Reader", "readLaw", "(LTwoCamps$Law;)I"⟩, prog_7_method_6_code, 3, (Option.some FieldType.int), 1, 1, 5)
def aI_175 : MethodName × ByteArray × Nat × Option FieldType × Nat × Nat × Nat := (⟨"TwoCamps$Reader", "readLawLine", "(I)Z"⟩, prog_7_method_7_code, 5, (Option.some FieldType.boolean), 2, 1, 5)
def aI_176 : MethodName × ByteArray × Nat × Option FieldType × Nat × Nat × Nat := (⟨"TwoCamps$Reader", "readSign", "(II)Z"⟩, prog_7_method_8_code, 3, (Option.some FieldType.boolean), 2, 2, 5)
def aI_177 : MethodName × ByteArray × Nat × Option FieldType × Nat × Nat × Nat := (⟨"TwoCamps$Reader", "readChoice", "(I)Z"⟩, prog_7_method_9_code, 5, (Option.some FieldType.boolean), 2, 1, 5)
def aI_178 : MethodName × ByteArray × Nat × Option FieldType × Nat × Nat × Nat := (⟨"TwoCamps$Reader", "readClaim", "(I)Z"⟩, prog_7_method_10_code, 6, (Option.some FieldType.boolean), 2, 1, 5)
def aI_179 : MethodName × ByteArray × Nat × Option FieldType × Nat × Nat × Nat := (⟨"TwoCamps$Reader", "readSum", "()Z"⟩, prog_7_method_11_code, 4, (Option.some FieldType.boolean), 2, 0, 5)
def aI_180 : MethodName × ByteArray × Nat × Option FieldType × Nat × Nat × Nat := (⟨"TwoCamps$Reader", "readUnit", "(Z)Z"⟩, prog_7_method_12_code, 3, (Option.some FieldType.boolean), 2, 1, 5)
def aI_181 : MethodName × ByteArray × Nat × Option FieldType × Nat × Nat × Nat := (⟨"TwoCamps$Reader", "readPlan", "(LTwoCamps$Plan;)I"⟩, prog_7_method_13_code, 3, (Option.some FieldType.int), 1, 1, 5)
def aI_182 : MethodName × ByteArray × Nat × Option FieldType × Nat × Nat × Nat := (⟨"TwoCamps$Reader", "readPlanLine", "(I)Z"⟩, prog_7_method_14_code, 4, (Option.some FieldType.boolean), 2, 1, 5)
def aI_183 : MethodName × ByteArray × Nat × Option FieldType × Nat × Nat × Nat := (⟨"TwoCamps$Reader", "readNumber", "(I)Z"⟩, prog_7_method_15_code, 2, (Option.some FieldType.boolean), 2, 1, 5)
def aI_184 : MethodName × ByteArray × Nat × Option FieldType × Nat × Nat × Nat := (⟨"TwoCamps$Slips", "<init>", "()V"⟩, prog_8_method_1_code, 1, none, 0, 0, 6)
def aI_185 : MethodName × ByteArray × Nat × Option FieldType × Nat × Nat × Nat := (⟨"TwoCamps$Slips", "find", "(LTwoCamps$Wood;LTwoCamps$Law;I)V"⟩, prog_8_method_2_code, 5, none, 0, 3, 6)
def aI_186 : MethodName × ByteArray × Nat × Option FieldType × Nat × Nat × Nat := (⟨"TwoCamps$Slips", "putIn", "(II)V"⟩, prog_8_method_3_code, 5, none, 0, 2, 6)
def aI_187 : MethodName × ByteArray × Nat × Option FieldType × Nat × Nat × Nat := (⟨"TwoCamps$Slips", "across", "(LTwoCamps$Wood;I)I"⟩, prog_8_method_4_code, 5, (Option.some FieldType.int), 1, 2, 6)
def aI_188 : MethodName × ByteArray × Nat × Option FieldType × Nat × Nat × Nat := (⟨"TwoCamps$Slips", "acrossOfLot", "(LTwoCamps$Wood;LTwoCamps$Law;I)I"⟩, prog_8_method_5_code, 6, (Option.some FieldType.int), 1, 3, 6)
def aI_189 : MethodName × ByteArray × Nat × Option FieldType × Nat × Nat × Nat := (⟨"TwoCamps$Slips", "chosenBy", "(LTwoCamps$Wood;LTwoCamps$Law;I)I"⟩, prog_8_method_6_code, 7, (Option.some FieldType.int), 1, 3, 6)
def aI_190 : MethodName × ByteArray × Nat × Option FieldType × Nat × Nat × Nat := (⟨"TwoCamps$Slips", "settleLoyal", "(LTwoCamps$Wood;LTwoCamps$Law;)V"⟩, prog_8_method_7_code, 4, none, 0, 2, 6)
def aI_191 : MethodName × ByteArray × Nat × Option FieldType × Nat × Nat × Nat := (⟨"TwoCamps$Slips", "beansSeen", "(LTwoCamps$Wood;LTwoCamps$Law;III)I"⟩, prog_8_method_8_code, 8, (Option.some FieldType.int), 1, 5, 6)
def aI_192 : MethodName × ByteArray × Nat × Option FieldType × Nat × Nat × Nat := (⟨"TwoCamps$Slips", "meanSeen", "(LTwoCamps$Wood;LTwoCamps$Law;IZ)I"⟩, prog_8_method_9_code, 9, (Option.some FieldType.int), 1, 4, 6)
def aI_193 : MethodName × ByteArray × Nat × Option FieldType × Nat × Nat × Nat := (⟨"TwoCamps$Tape", "<init>", "()V"⟩, prog_9_method_1_code, 1, none, 0, 0, 7)
def aI_194 : MethodName × ByteArray × Nat × Option FieldType × Nat × Nat × Nat := (⟨"TwoCamps$Tape", "add", "(I)V"⟩, prog_9_method_2_code, 3, none, 0, 1, 7)
def aI_195 : MethodName × ByteArray × Nat × Option FieldType × Nat × Nat × Nat := (⟨"TwoCamps$Tape", "findTokens", "()V"⟩, prog_9_method_3_code, 3, none, 0, 0, 7)
def aI_196 : MethodName × ByteArray × Nat × Option FieldType × Nat × Nat × Nat := (⟨"TwoCamps$Tape", "findToken", "(I)I"⟩, prog_9_method_4_code, 4, (Option.some FieldType.int), 1, 1, 7)
def aI_197 : MethodName × ByteArray × Nat × Option FieldType × Nat × Nat × Nat := (⟨"TwoCamps$Tape", "put", "(III)V"⟩, prog_9_method_5_code, 4, none, 0, 3, 7)
def aI_198 : MethodName × ByteArray × Nat × Option FieldType × Nat × Nat × Nat := (⟨"TwoCamps$Tape", "signAt", "(I)I"⟩, prog_9_method_6_code, 2, (Option.some FieldType.int), 1, 1, 7)
def aI_199 : MethodName × ByteArray × Nat × Option FieldType × Nat × Nat × Nat := (⟨"TwoCamps$Tape", "valueBetween", "(II)I"⟩, prog_9_method_7_code, 5, (Option.some FieldType.int), 1, 2, 7)
def aI_200 : MethodName × ByteArray × Nat × Option FieldType × Nat × Nat × Nat := (⟨"TwoCamps$Tape", "wordBetween", "(II)I"⟩, prog_9_method_8_code, 4, (Option.some FieldType.int), 1, 2, 7)
def aI_201 : MethodName × ByteArray × Nat × Option FieldType × Nat × Nat × Nat := (⟨"TwoCamps$Tape", "isBetween", "(Ljava/lang/String;II)Z"⟩, prog_9_method_9_code, 5, (Option.some FieldType.boolean), 2, 3, 7)
def aI_202 : MethodName × ByteArray × Nat × Option FieldType × Nat × Nat × Nat := (⟨"TwoCamps$Tape", "isLetter", "(I)Z"⟩, prog_9_method_10_code, 1, (Option.some FieldType.boolean), 2, 1, 100)
def aI_203 : MethodName × ByteArray × Nat × Option FieldType × Nat × Nat × Nat := (⟨"TwoCamps$Tape", "isDigit", "(I)Z"⟩, prog_9_method_11_code, 1, (Option.some FieldType.boolean), 2, 1, 100)
def aI_204 : MethodName × ByteArray × Nat × Option FieldType × Nat × Nat × Nat := (⟨"TwoCamps$Tape", "isSign", "(I)Z"⟩, prog_9_method_12_code, 1, (Option.some FieldType.boolean), 2, 1, 100)
def aI_205 : MethodName × ByteArray × Nat × Option FieldType × Nat × Nat × Nat := (⟨"TwoCamps$Tape", "spelling", "(I)Ljava/lang/String;"⟩, prog_9_method_13_code, 1, (Option.some (FieldType.object "java/lang/String")), 4, 1, 100)
def aI_206 : MethodName × ByteArray × Nat × Option FieldType × Nat × Nat × Nat := (⟨"TwoCamps$Thought", "<init>", "(LTwoCamps$Course;)V"⟩, prog_10_method_1_code, 3, none, 0, 1, 8)
def aI_207 : MethodName × ByteArray × Nat × Option FieldType × Nat × Nat × Nat := (⟨"TwoCamps$Thought", "startFrom", "(LTwoCamps$Told;)LTwoCamps$Wood;"⟩, prog_10_method_2_code, 3, (Option.some (FieldType.object "TwoCamps$Wood")), 4, 1, 8)
def aI_208 : MethodName × ByteArray × Nat × Option FieldType × Nat × Nat × Nat := (⟨"TwoCamps$Thought", "lead", "(LTwoCamps$Told;LTwoCamps$Plan;LTwoCamps$Law;Z)LTwoCamps$Wood;"⟩, prog_10_method_3_code, 9, (Option.some (FieldType.object "TwoCamps$Wood")), 4, 4, 8)
def aI_209 : MethodName × ByteArray × Nat × Option FieldType × Nat × Nat × Nat := (⟨"TwoCamps$Thought", "daysTillFight", "(LTwoCamps$Told;LTwoCamps$Law;I)I"⟩, prog_10_method_4_code, 6, (Option.some FieldType.int), 1, 3, 8)
def aI_210 : MethodName × ByteArray × Nat × Option FieldType × Nat × Nat × Nat := (⟨"TwoCamps$Thought", "daysTillPeace", "(LTwoCamps$Told;LTwoCamps$Law;)I"⟩, prog_10_method_5_code, 5, (Option.some FieldType.int), 1, 2, 8)
def aI_211 : MethodName × ByteArray × Nat × Option FieldType × Nat × Nat × Nat := (⟨"TwoCamps$Thought", "beginOrders", "(LTwoCamps$Told;)V"⟩, prog_10_method_6_code, 2, none, 0, 1, 8)
def aI_212 : MethodName × ByteArray × Nat × Option FieldType × Nat × Nat × Nat := (⟨"TwoCamps$Thought", "beginSecond", "()V"⟩, prog_10_method_7_code, 1, none, 0, 0, 8)
def aI_213 : MethodName × ByteArray × Nat × Option FieldType × Nat × Nat × Nat := (⟨"TwoCamps$Thought", "tryOrders", "(LTwoCamps$Thought;LTwoCamps$Told;LTwoCamps$Law;II)V"⟩, prog_10_method_8_code, 8, none, 0, 5, 100)
def aI_214 : MethodName × ByteArray × Nat × Option FieldType × Nat × Nat × Nat := (⟨"TwoCamps$Thought", "arrive", "(I)V"⟩, prog_10_method_9_code, 2, none, 0, 1, 8)
def aI_215 : MethodName × ByteArray × Nat × Option FieldType × Nat × Nat × Nat := (⟨"TwoCamps$Told", "<init>", "()V"⟩, prog_11_method_1_code, 2, none, 0, 0, 9)
def aI_216 : MethodName × ByteArray × Nat × Option FieldType × Nat × Nat × Nat := (⟨"TwoCamps$Told", "copyFrom", "(LTwoCamps$Told;)V"⟩, prog_11_method_2_code, 3, none, 0, 1, 9)
def aI_217 : MethodName × ByteArray × Nat × Option FieldType × Nat × Nat × Nat := (⟨"TwoCamps$Told", "lawInForce", "()LTwoCamps$Law;"⟩, prog_11_method_3_code, 1, (Option.some (FieldType.object "TwoCamps$Law")), 4, 0, 9)
def aI_218 : MethodName × ByteArray × Nat × Option FieldType × Nat × Nat × Nat := (⟨"TwoCamps$Told", "keepDay", "()V"⟩, prog_11_method_4_code, 2, none, 0, 0, 9)
def aI_219 : MethodName × ByteArray × Nat × Option FieldType × Nat × Nat × Nat := (⟨"TwoCamps$Wood", "<init>", "()V"⟩, prog_12_method_1_code, 1, none, 0, 0, 10)
def aI_220 : MethodName × ByteArray × Nat × Option FieldType × Nat × Nat × Nat := (⟨"TwoCamps$Wood", "copyFrom", "(LTwoCamps$Wood;)V"⟩, prog_12_method_2_code, 2, none, 0, 1, 10)
def aI_221 : MethodName × ByteArray × Nat × Option FieldType × Nat × Nat × Nat := (⟨"TwoCamps$Wood", "join", "(II)I"⟩, prog_12_method_3_code, 4, (Option.some FieldType.int), 1, 2, 10)
def aI_222 : MethodName × ByteArray × Nat × Option FieldType × Nat × Nat × Nat := (⟨"TwoCamps$Wood", "isBoy", "(I)Z"⟩, prog_12_method_4_code, 2, (Option.some FieldType.boolean), 2, 1, 10)
def aI_223 : MethodName × ByteArray × Nat × Option FieldType × Nat × Nat × Nat := (⟨"TwoCamps$Wood", "isCouple", "(II)Z"⟩, prog_12_method_5_code, 3, (Option.some FieldType.boolean), 2, 2, 10)
def aI_224 : MethodName × ByteArray × Nat × Option FieldType × Nat × Nat × Nat := (⟨"TwoCamps$Wood", "tellKnown", "(IIZ)V"⟩, prog_12_method_6_code, 4, none, 0, 3, 10)
def aI_225 : MethodName × ByteArray × Nat × Option FieldType × Nat × Nat × Nat := (⟨"TwoCamps$Wood", "lotOf", "(I)I"⟩, prog_12_method_7_code, 2, (Option.some FieldType.int), 1, 1, 10)
def aI_226 : MethodName × ByteArray × Nat × Option FieldType × Nat × Nat × Nat := (⟨"TwoCamps$Wood", "members", "(I)I"⟩, prog_12_method_8_code, 2, (Option.some FieldType.int), 1, 1, 10)
def aI_227 : MethodName × ByteArray × Nat × Option FieldType × Nat × Nat × Nat := (⟨"TwoCamps$Wood", "size", "(I)I"⟩, prog_12_method_9_code, 2, (Option.some FieldType.int), 1, 1, 10)
def aI_228 : MethodName × ByteArray × Nat × Option FieldType × Nat × Nat × Nat := (⟨"TwoCamps$Wood", "own", "(I)I"⟩, prog_12_method_10_code, 2, (Option.some FieldType.int), 1, 1, 10)
def aI_229 : MethodName × ByteArray × Nat × Option FieldType × Nat × Nat × Nat := (⟨"TwoCamps$Wood", "across", "(I)I"⟩, prog_12_method_11_code, 2, (Option.some FieldType.int), 1, 1, 10)
def aI_230 : MethodName × ByteArray × Nat × Option FieldType × Nat × Nat × Nat := (⟨"TwoCamps$Wood", "cross", "()I"⟩, prog_12_method_12_code, 4, (Option.some FieldType.int), 1, 0, 10)
def aI_231 : MethodName × ByteArray × Nat × Option FieldType × Nat × Nat × Nat := (⟨"TwoCamps$Wood", "meanLike", "(II)I"⟩, prog_12_method_13_code, 4, (Option.some FieldType.int), 1, 2, 10)
def aI_232 : MethodName × ByteArray × Nat × Option FieldType × Nat × Nat × Nat := (⟨"TwoCamps$Wood", "likeSum", "(II)I"⟩, prog_12_method_14_code, 6, (Option.some FieldType.int), 1, 2, 10)
def aI_233 : MethodName × ByteArray × Nat × Option FieldType × Nat × Nat × Nat := (⟨"TwoCamps$Wood", "score", "(I)I"⟩, prog_12_method_15_code, 5, (Option.some FieldType.int), 1, 1, 10)
def aI_234 : MethodName × ByteArray × Nat × Option FieldType × Nat × Nat × Nat := (⟨"TwoCamps$Wood", "drawOfTen", "()I"⟩, prog_12_method_16_code, 1, (Option.some FieldType.int), 1, 0, 10)
def aI_235 : MethodName × ByteArray × Nat × Option FieldType × Nat × Nat × Nat := (⟨"TwoCamps$Wood", "count", "(III)V"⟩, prog_12_method_17_code, 4, none, 0, 3, 10)
def aI_236 : MethodName × ByteArray × Nat × Option FieldType × Nat × Nat × Nat := (⟨"TwoCamps$Wood", "tallied", "(I)I"⟩, prog_12_method_18_code, 2, (Option.some FieldType.int), 1, 1, 10)
def aI_237 : MethodName × ByteArray × Nat × Option FieldType × Nat × Nat × Nat := (⟨"TwoCamps$Wood", "isNamed", "(I)Z"⟩, prog_12_method_19_code, 2, (Option.some FieldType.boolean), 2, 1, 10)
def aI_238 : MethodName × ByteArray × Nat × Option FieldType × Nat × Nat × Nat := (⟨"TwoCamps$Wood", "names", "()I"⟩, prog_12_method_20_code, 1, (Option.some FieldType.int), 1, 0, 10)
def aI_239 : MethodName × ByteArray × Nat × Option FieldType × Nat × Nat × Nat := (⟨"java/lang/Integer", "bitCount", "(I)I"⟩, prog_15_method_49_code, 1, (Option.some FieldType.int), 1, 1, 100)
def aI_240 : MethodName × ByteArray × Nat × Option FieldType × Nat × Nat × Nat := (⟨"java/util/Arrays", "fill", "([II)V"⟩, prog_21_method_103_code, 4, none, 0, 2, 100)
def aI_241 : MethodName × ByteArray × Nat × Option FieldType × Nat × Nat × Nat := (x, code, 4, ret, 2, 1, 100)
def aIs : List (MethodName × ByteArray × Nat × Option FieldType × Nat × Nat × Nat) := [aI_0, aI_1, aI_2, aI_3, aI_4, aI_5, aI_6, aI_7, aI_8, aI_9, aI_10, aI_11, aI_12, aI_13, aI_14, aI_15, aI_16, aI_17, aI_18, aI_19, aI_20, aI_21, aI_22, aI_23, aI_24, aI_25, aI_26, aI_27, aI_28, aI_29, aI_30, aI_31, aI_32, aI_33, aI_34, aI_35, aI_36, aI_37, aI_38, aI_39, aI_40, aI_41, aI_42, aI_43, aI_44, aI_45, aI_46, aI_47, aI_48, aI_49, aI_50, aI_51, aI_52, aI_53, aI_54, aI_55, aI_56, aI_57, aI_58, aI_59, aI_60, aI_61, aI_62, aI_63, aI_64, aI_65, aI_66, aI_67, aI_68, aI_69, aI_70, aI_71, aI_72, aI_73, aI_74, aI_75, aI_76, aI_77, aI_78, aI_79, aI_80, aI_81, aI_82, aI_83, aI_84, aI_85, aI_86, aI_87, aI_88, aI_89, aI_90, aI_91, aI_92, aI_93, aI_94, aI_95, aI_96, aI_97, aI_98, aI_99, aI_100, aI_101, aI_102, aI_103, aI_104, aI_105, aI_106, aI_107, aI_108, aI_109, aI_110, aI_111, aI_112, aI_113, aI_114, aI_115, aI_116, aI_117, aI_118, aI_119, aI_120, aI_121, aI_122, aI_123, aI_124, aI_125, aI_126, aI_127, aI_128, aI_129, aI_130, aI_131, aI_132, aI_133, aI_134, aI_135, aI_136, aI_137, aI_138, aI_139, aI_140, aI_141, aI_142, aI_143, aI_144, aI_145, aI_146, aI_147, aI_148, aI_149, aI_150, aI_151, aI_152, aI_153, aI_154, aI_155, aI_156, aI_157, aI_158, aI_159, aI_160, aI_161, aI_162, aI_163, aI_164, aI_165, aI_166, aI_167, aI_168, aI_169, aI_170, aI_171, aI_172, aI_173, aI_174, aI_175, aI_176, aI_177, aI_178, aI_179, aI_180, aI_181, aI_182, aI_183, aI_184, aI_185, aI_186, aI_187, aI_188, aI_189, aI_190, aI_191, aI_192, aI_193, aI_194, aI_195, aI_196, aI_197, aI_198, aI_199, aI_200, aI_201, aI_202, aI_203, aI_204, aI_205, aI_206, aI_207, aI_208, aI_209, aI_210, aI_211, aI_212, aI_213, aI_214, aI_215, aI_216, aI_217, aI_218, aI_219, aI_220, aI_221, aI_222, aI_223, aI_224, aI_225, aI_226, aI_227, aI_228, aI_229, aI_230, aI_231, aI_232, aI_233, aI_234, aI_235, aI_236, aI_237, aI_238, aI_239, aI_240, aI_241]
/-- where a method's blocks begin -/
def aPs : List (List Nat) := [[0],
  [0, 15, 19, 25, 29, 30, 37, 46, 53, 55],
  [0, 15, 22, 24],
  [0, 15, 17],
  [0],
  [0, 16, 18],
  [0, 4, 15, 17],
  [0, 13, 20, 40, 45, 52, 69],
  [0, 4, 12, 17, 27, 28],
  [0, 7, 9],
  [0, 7, 11, 17, 22, 26, 31, 38, 42, 43, 50, 65, 67],
  [0, 7, 9, 24, 33, 48, 83],
  [0, 16, 19, 25, 41, 56, 58, 59, 128, 131, 138, 149, 153, 154, 155, 162, 173, 177, 178, 179, 193, 209, 223],
  [0, 7, 10, 60, 72, 84, 96, 113, 136],
  [0, 5, 19, 25, 29, 35, 39, 40, 45, 64, 66],
  [0, 19, 31, 43, 50, 52],
  [0, 7, 11, 16, 20, 25, 29, 52, 57, 61, 84, 91, 96, 100],
  [0, 7, 14, 17, 104, 118, 132, 138, 156, 164, 176, 188],
  [0, 7, 11, 17, 19],
  [0, 7, 30, 31],
  [0, 5, 15, 22, 33, 36],
  [0, 7, 14, 18, 29, 31, 97, 107, 118],
  [0, 5, 11, 18, 24, 26],
  [0, 7, 14, 16],
  [0, 7, 9, 16, 22, 59, 70, 81, 87],
  [0, 14, 18, 24, 26],
  [0, 4, 9, 11, 31, 33, 60, 64, 68, 78],
  [0, 4, 10, 15, 22, 24, 26, 32, 47, 49, 55],
  [0, 4, 23, 30, 41],
  [0, 56, 61, 69, 74, 79, 87, 93, 101, 109],
  [0],
  [0, 23, 35, 52, 62, 72, 78, 91, 92],
  [0, 4, 9, 13, 14],
  [0, 4, 9, 13, 14],
  [0, 4, 9, 13, 14],
  [0, 6, 12, 16, 17],
  [0, 4, 11, 15, 16],
  [0, 9, 13, 14],
  [0, 4, 12, 13],
  [0],
  [0, 8, 14, 41],
  [0],
  [0, 5, 10, 14, 15],
  [0, 4, 6, 16, 20, 26, 27],
  [0, 4, 9, 10],
  [0, 4, 12, 16, 17],
  [0, 4, 9, 13, 14],
  [0, 13, 24, 33, 40, 42],
  [0, 13, 21, 26, 38, 40],
  [0, 13, 21, 26, 28, 42, 46, 47, 62, 66, 67],
  [0],
  [0],
  [0, 13, 24, 26],
  [0, 4, 12, 22, 32, 36, 42],
  [0, 8, 17, 20, 29, 36, 46, 56, 67, 78, 81, 103, 109, 115],
  [0, 6, 14, 17, 26, 35, 45, 61, 64, 83, 89, 95],
  [0, 8, 17, 23, 33, 49, 53, 54, 59, 63, 64, 67, 70, 76, 91, 103, 111, 117],
  [0, 3, 7, 39],
  [0, 15, 17],
  [0, 18, 20],
  [0, 8, 17, 18],
  [0, 12, 24, 28, 29],
  [0],
  [0, 6, 12, 18, 24, 30, 36, 42, 48, 54, 60, 64, 65],
  [0, 5, 13, 20, 28, 52, 61, 69, 86, 88, 94, 106, 115, 118],
  [0, 13, 26, 39, 66, 72, 95, 110, 123, 147, 155, 163, 171, 186, 197, 219, 223, 239, 252, 260, 268, 273],
  [0],
  [0, 8, 16, 20, 21],
  [0, 8, 16, 20, 21],
  [0],
  [0, 8, 17, 21, 22, 27, 35, 41, 46, 50, 51, 55, 65, 69],
  [0, 8, 10, 19, 28, 43, 51, 57, 61, 68, 74, 82, 84, 89, 93, 94, 101],
  [0, 8, 10, 19, 28, 37, 41, 42, 55, 57, 66],
  [0, 8, 10, 19, 28, 37, 43, 52, 57, 66, 71, 73, 86, 88],
  [0],
  [0, 7, 22, 44, 57],
  [0, 9, 13, 24, 33, 42, 48, 62, 66, 71, 76, 78, 88, 96, 98, 109, 118, 139, 148, 175, 191, 193, 202, 208],
  [0, 2, 10, 18, 24, 30, 67, 69, 88, 100, 102, 121, 127, 138, 145, 149, 154],
  [0, 2, 7, 93, 95, 103, 153],
  [0, 2, 10, 25, 31, 37, 72, 78, 86, 92, 102, 106, 108, 111, 117, 134, 143, 149, 160, 167, 171, 176],
  [0, 2, 7, 53],
  [0, 25, 35, 39, 40, 64, 68, 72, 79, 83, 94, 100, 116, 122, 124, 128, 138, 145],
  [0, 9, 16, 21, 28, 29],
  [0, 5, 9, 14, 18, 23, 27, 32, 36, 42, 47, 51, 52, 53, 59, 64, 68, 69, 70, 76, 81, 85, 86, 87, 93, 99, 105, 109, 110],
  [0, 12, 24, 34, 45, 61, 71, 83, 93, 105, 128, 170, 176],
  [0, 8, 29, 39, 54, 77, 80, 106, 112],
  [0, 2, 8, 21, 64, 68, 69, 86, 90, 91, 106, 110, 111],
  [0, 30, 34, 35],
  [0],
  [0],
  [0, 4, 12, 22, 32, 41, 47],
  [0, 18, 22, 27, 31, 32, 43, 63],
  [0, 2, 10, 12, 20, 25, 35, 45, 63, 69, 75, 77, 85, 87, 95, 100, 109, 118, 121, 165, 170, 178, 183, 185, 186, 192, 198],
  [0, 12, 17, 28, 31, 38, 44, 45, 96, 102],
  [0, 7, 15, 30, 38, 42, 43, 50, 52, 60, 69, 72, 89, 95],
  [0, 7, 12, 21, 30, 33, 55, 61],
  [0, 2, 10, 15, 24, 27, 47, 51, 62, 63, 69, 71, 76, 81, 90, 100, 106, 116, 120, 131, 136, 147, 150, 155, 171, 174, 180, 193],
  [0, 9, 14, 24, 44, 48, 54],
  [0, 15, 25, 35, 39, 40],
  [0, 2, 10, 20, 30, 38, 45, 51],
  [0, 9, 10],
  [0, 33, 47, 52, 56],
  [0],
  [0, 15, 17],
  [0, 15, 23, 28, 29, 35, 45, 54, 56],
  [0, 43, 59, 71, 75, 86, 95, 96, 190, 197, 205, 219, 248, 254],
  [0, 15, 17],
  [0, 17, 29],
  [0, 108, 113, 199, 201, 207, 245, 247, 254, 276, 278, 285, 307],
  [0],
  [0, 13, 21, 33, 36, 68, 73, 79, 84, 90, 93, 99, 104, 110, 115, 121, 128, 132],
  [0, 13, 24, 26, 38, 43, 56, 61, 68, 73, 87, 90, 96],
  [0, 13, 15, 27, 33, 40, 54, 61, 65, 66, 76, 80, 81],
  [0, 10, 17, 27, 35, 38],
  [0, 12, 20, 47, 51, 52, 62],
  [0, 7, 11, 28, 35, 39, 41, 48, 63, 70, 109, 116, 161],
  [0, 13, 21, 34, 36, 39, 48, 63, 69, 74, 98, 105, 114, 134, 143, 147, 152, 160],
  [0, 16, 22, 34, 36, 49, 53, 54],
  [0],
  [0, 13, 21, 30, 31],
  [0, 13, 15, 27, 33, 48, 51, 57, 63],
  [0, 13, 16, 33, 48, 52, 59, 64, 71, 76, 83, 93, 107, 113, 119, 125, 132, 138, 143, 152, 158, 169, 179, 183, 189, 191, 203, 215, 217],
  [0, 13, 16, 20, 26, 31, 38, 43, 52, 57, 64, 69, 76, 81, 88, 94, 101, 107, 114, 120, 123, 128, 137, 148, 159, 168, 174],
  [0, 18, 29, 45, 47],
  [0, 20, 24, 33, 39, 42],
  [0, 8, 18, 22, 23],
  [0, 13, 21, 26, 38, 48, 49],
  [0, 8, 17, 20, 29, 36, 46, 56, 73, 77, 78, 82, 85, 103, 109, 115],
  [0, 17, 27, 31, 35, 44, 49, 58, 71],
  [0, 2, 8, 21, 32, 40, 49, 52, 58, 62, 67, 78, 133, 139, 145],
  [0, 15, 17, 32, 41, 52, 62, 72, 78, 87, 95, 119, 137, 143, 147, 152, 157, 162, 174],
  [0, 16, 28, 30, 32, 38, 47, 53, 82, 96, 98, 104],
  [0, 17, 29],
  [0, 2, 7, 61, 63, 69, 139, 141, 148, 186, 188, 194, 232],
  [0, 26, 31, 53, 55, 61, 124, 128, 129, 136, 140, 141, 164, 166, 173, 195],
  [0, 9, 16, 18, 27, 29, 36, 58, 67, 69, 76, 98],
  [0, 9, 14, 19, 31, 36, 41, 46, 51, 56, 61, 66, 80, 86, 91, 97, 100, 104, 112, 127],
  [0],
  [0, 15, 20],
  [0, 42, 51],
  [0, 17, 23, 27, 28, 42],
  [0, 2, 8, 13, 24, 31, 43, 93, 99, 105],
  [0],
  [0, 30, 63],
  [0, 5, 12, 24, 52, 59, 60, 62, 68],
  [0, 17, 34, 46],
  [0],
  [0, 20, 26, 48],
  [0, 21, 46],
  [0, 4, 10, 19, 25, 26, 34],
  [0, 4, 10, 15, 23, 25, 28, 34, 51, 63, 70, 79, 90, 96, 102, 109, 129],
  [0, 3, 8, 11, 17, 50, 56],
  [0],
  [0],
  [0],
  [0, 7, 17, 37],
  [0, 7, 16, 69],
  [0, 3, 12, 19, 30, 34, 35, 42, 59, 81, 101, 107],
  [0, 6, 11, 17, 25, 47, 54, 64, 75, 80, 84, 91, 98, 104, 127, 132, 138, 172, 178, 183, 195, 196],
  [0, 84, 88, 92, 96, 100, 104, 107, 108, 113, 117, 118, 119, 124, 128, 129, 130, 135, 139, 140, 141, 145, 149],
  [0],
  [0],
  [0],
  [0, 7, 16, 59],
  [0],
  [0, 51, 55, 56, 73, 77, 78, 93, 97, 98],
  [0, 28, 32, 33, 52, 56, 57],
  [0],
  [0],
  [0],
  [0],
  [0, 7, 21, 36, 38],
  [0, 7, 21, 36, 37],
  [0, 13, 27, 42, 49],
  [0, 9, 15, 24, 32, 34, 40],
  [0, 11, 17, 23, 29, 35, 60, 62, 80, 98, 100],
  [0, 8, 16, 22],
  [0, 8, 16, 24, 26, 32, 41, 52, 56, 65, 71, 73, 75, 91],
  [0, 2, 11, 17, 33, 42, 46, 47, 54, 58, 67, 73, 77, 97, 108, 112, 113, 118, 135, 146, 153, 157, 158, 170, 179, 188],
  [0, 8, 15, 22, 26, 27, 33, 35, 41, 47, 56, 67, 73, 79, 88, 94, 100, 102, 104, 120],
  [0, 11, 15, 22, 28, 42, 46, 52, 56, 73, 79],
  [0, 9, 15, 24, 32, 34, 40],
  [0, 11, 17, 23, 29, 35, 53, 59, 71, 75, 77, 83, 85, 91, 102, 114],
  [0, 9, 15, 23, 29],
  [0],
  [0, 11, 22, 29, 35, 47, 87, 93],
  [0, 2, 6, 18, 30, 36, 39, 45, 83, 88, 102],
  [0, 5, 11, 22, 41, 44, 50],
  [0, 6, 13, 26, 46, 52],
  [0, 6, 13, 24, 30, 43, 47, 48, 57, 63],
  [0, 2, 8, 24, 40, 54, 60],
  [0],
  [0, 9, 16, 19, 31, 38, 45, 57, 72, 76, 77, 82, 101, 107, 113],
  [0],
  [0, 3, 7, 14, 24, 50, 56],
  [0, 9, 16, 24, 36],
  [0, 17, 25, 36, 42, 57, 64, 72, 83, 89, 97, 102, 104, 117, 123, 129, 137, 141, 143, 148],
  [0, 7, 17, 57],
  [0, 4, 12, 19, 28, 29],
  [0, 5, 11, 32],
  [0, 2, 8, 21, 23, 29],
  [0, 10, 12, 15, 24, 41, 43, 49],
  [0, 6, 12, 18, 24, 28, 29],
  [0, 6, 12, 16, 17],
  [0, 6, 12, 18, 24, 30, 36, 40, 41],
  [0, 132, 135, 138, 141, 144, 147, 150, 153, 156, 159, 162, 165, 168, 171, 174, 177, 180, 183, 186, 189, 192, 195, 198, 201, 204, 207, 210, 213, 216, 219],
  [0, 42, 51, 70],
  [0],
  [0, 20, 29, 39, 44, 54, 55, 90, 98, 106, 118, 143, 149],
  [0, 10, 16, 36, 39, 46, 62, 65, 71],
  [0, 9, 16, 23, 42, 49, 53, 65],
  [0],
  [0],
  [0, 8, 13, 27, 30, 39, 49, 89, 104, 108, 109, 114, 138, 144],
  [0, 7, 16, 17, 24, 37, 58, 90],
  [0, 65, 70, 102],
  [0, 13, 18, 54],
  [0],
  [0, 17, 29, 30],
  [0],
  [0],
  [0, 7, 16, 18],
  [0, 4, 12, 16, 17],
  [0, 8, 16, 21, 25, 26],
  [0, 9, 22, 34, 44, 57, 69],
  [0],
  [0, 8, 17, 21],
  [0],
  [0],
  [0],
  [0],
  [0],
  [0, 5, 12, 15, 24, 31, 38, 47, 63, 69, 75],
  [0, 25, 32, 41, 51, 57],
  [0],
  [0],
  [0],
  [0, 12, 16, 17],
  [0, 8, 12, 13, 21, 25, 26],
  [0],
  [0, 5, 10, 20],
  [0, 18, 27, 164, 197, 240, 259, 263, 264, 287, 291, 292, 299, 322, 385, 408, 441, 464, 487, 530, 553, 586, 619, 652, 695, 728, 747, 751, 752, 780, 784, 785, 797, 830, 853, 876, 919, 952, 985, 1008, 1041, 1064, 1097, 1106, 1110, 1111, 1124, 1128, 1129, 1136, 1157, 1159, 1165]]
/-- the places of a method's words: its code, static or instance, selected, its class initialized -/
def aWs : List (Nat × Nat × Nat × Nat) := [(178, 177, 0, 153), (578, 576, 577, 153), (589, 587, 588, 153), (604, 602, 603, 153), (612, 610, 611, 153), (616, 614, 615, 153), (624, 622, 623, 153), (628, 626, 627, 153), (842, 840, 841, 153), (846, 844, 845, 153), (850, 848, 849, 153), (1028, 1026, 1027, 153), (1032, 1030, 1031, 153), (1051, 1049, 1050, 153), (1066, 1064, 1065, 153), (1070, 1068, 1069, 153), (1082, 1080, 1081, 153), (1092, 1090, 1091, 153), (1128, 1126, 1127, 153), (1136, 1134, 1135, 153), (1144, 1142, 1143, 153), (1148, 1146, 1147, 153), (1170, 1168, 1169, 153), (1174, 1172, 1173, 153), (1178, 1176, 1177, 153), (1182, 1180, 1181, 153), (1186, 1184, 1185, 153), (1214, 1212, 1213, 153), (1222, 1220, 1221, 153), (1234, 1232, 1233, 153), (857, 856, 33, 153), (1039, 1038, 64, 153), (581, 580, 0, 153), (753, 752, 0, 153), (853, 852, 0, 153), (600, 599, 0, 153), (1073, 1072, 0, 153), (903, 902, 0, 153), (906, 905, 0, 153), (953, 952, 0, 153), (1218, 1217, 0, 153), (1239, 1238, 0, 166), (1495, 1494, 87, 166), (1647, 1646, 115, 166), (1743, 1742, 137, 166), (1503, 1502, 88, 166), (1491, 1490, 86, 166), (1487, 1485, 1486, 166), (1499, 1497, 1498, 166), (1507, 1505, 1506, 166), (1511, 1509, 1510, 166), (1651, 1650, 116, 166), (1515, 1513, 1514, 166), (1691, 1690, 125, 166), (1643, 1642, 114, 166), (1739, 1738, 136, 166), (1703, 1702, 128, 166), (1523, 1522, 89, 166), (1519, 1517, 1518, 166), (1527, 1525, 1526, 166), (1539, 1538, 91, 166), (1543, 1542, 92, 166), (1551, 1550, 94, 166), (1555, 1554, 95, 166), (1547, 1546, 93, 166), (1535, 1534, 90, 166), (1563, 1562, 97, 166), (1587, 1586, 103, 166), (1583, 1582, 102, 166), (1579, 1578, 101, 166), (1575, 1574, 100, 166), (1571, 1570, 99, 166), (1567, 1566, 98, 166), (1599, 1598, 106, 166), (1595, 1594, 105, 166), (1603, 1602, 107, 166), (1591, 1590, 104, 166), (1559, 1558, 96, 166), (1611, 1610, 109, 166), (1607, 1606, 108, 166), (1615, 1614, 110, 166), (1531, 1529, 1530, 166), (1619, 1617, 1618, 166), (1677, 1676, 122, 166), (1673, 1672, 121, 166), (1669, 1668, 120, 166), (1665, 1664, 119, 166), (1661, 1660, 118, 166), (1687, 1686, 124, 166), (1699, 1698, 127, 166), (1639, 1638, 113, 166), (1635, 1634, 112, 166), (1657, 1656, 117, 166), (1683, 1682, 123, 166), (1695, 1694, 126, 166), (1707, 1706, 129, 166), (1719, 1718, 132, 166), (1715, 1714, 131, 166), (1807, 1806, 144, 166), (1711, 1710, 130, 166), (1723, 1722, 133, 166), (1631, 1630, 111, 166), (1727, 1726, 134, 166), (1623, 1621, 1622, 166), (1627, 1625, 1626, 166), (1735, 1734, 135, 166), (1731, 1729, 1730, 166), (1759, 1758, 140, 166), (1755, 1754, 139, 166), (1751, 1750, 138, 166), (1747, 1745, 1746, 166), (1763, 1761, 1762, 166), (1767, 1765, 1766, 166), (1771, 1769, 1770, 166), (1779, 1778, 141, 166), (1783, 1782, 142, 166), (1775, 1773, 1774, 166), (1787, 1785, 1786, 166), (1795, 1794, 143, 166), (1791, 1789, 1790, 166), (1799, 1797, 1798, 166), (1803, 1801, 1802, 166), (1811, 1809, 1810, 166), (1815, 1813, 1814, 166), (1827, 1826, 146, 166), (1823, 1822, 145, 166), (1819, 1817, 1818, 166), (1836, 1835, 147, 166), (1832, 1830, 1831, 166), (1844, 1843, 148, 166), (1840, 1838, 1839, 166), (1849, 1847, 1848, 166), (1862, 1861, 150, 166), (1858, 1857, 149, 166), (1866, 1865, 151, 166), (1854, 1852, 1853, 166), (1870, 1868, 1869, 166), (454, 453, 0, 161), (865, 864, 35, 161), (869, 868, 36, 161), (878, 877, 38, 161), (920, 919, 44, 161), (925, 924, 45, 161), (963, 962, 51, 161), (977, 976, 53, 161), (985, 984, 55, 161), (539, 538, 0, 165), (1190, 1189, 81, 165), (1195, 1194, 82, 165), (1199, 1198, 0, 165), (1204, 1203, 83, 165), (1209, 1208, 84, 165), (224, 223, 0, 156), (809, 808, 26, 156), (761, 760, 14, 156), (789, 788, 21, 156), (805, 804, 25, 156), (943, 942, 49, 156), (947, 946, 50, 156), (950, 949, 0, 156), (257, 256, 0, 157), (836, 835, 32, 157), (820, 819, 28, 157), (832, 831, 31, 157), (460, 459, 0, 162), (937, 936, 48, 162), (929, 928, 46, 162), (967, 966, 52, 162), (981, 980, 54, 162), (218, 217, 0, 155), (632, 631, 5, 155), (765, 764, 15, 155), (785, 784, 20, 155), (773, 772, 17, 155), (757, 756, 13, 155), (769, 768, 16, 155), (801, 800, 24, 155), (793, 792, 22, 155), (797, 796, 23, 155), (777, 776, 18, 155), (781, 780, 19, 155), (816, 815, 27, 155), (824, 823, 29, 155), (828, 827, 30, 155), (476, 475, 0, 163), (999, 998, 58, 163), (1006, 1005, 59, 163), (1010, 1009, 60, 163), (1061, 1060, 67, 163), (1043, 1042, 65, 163), (994, 993, 57, 163), (1077, 1076, 68, 163), (1086, 1085, 69, 163), (186, 185, 0, 154), (620, 619, 4, 154), (636, 635, 6, 154), (640, 639, 7, 154), (740, 739, 11, 154), (644, 643, 8, 154), (747, 746, 12, 154), (651, 650, 9, 154), (688, 687, 10, 154), (647, 646, 0, 154), (743, 742, 0, 154), (750, 749, 0, 154), (654, 653, 0, 154), (495, 494, 0, 164), (1100, 1099, 71, 164), (1096, 1095, 70, 164), (1132, 1131, 76, 164), (1140, 1139, 77, 164), (1152, 1151, 78, 164), (1166, 1165, 80, 164), (1155, 1154, 0, 164), (1159, 1158, 79, 164), (309, 308, 0, 158), (1226, 1225, 85, 158), (861, 860, 34, 158), (1015, 1014, 61, 158), (315, 314, 0, 159), (1104, 1103, 72, 159), (585, 584, 0, 159), (597, 596, 2, 159), (593, 592, 1, 159), (608, 607, 3, 159), (933, 932, 47, 159), (886, 885, 40, 159), (1055, 1054, 66, 159), (1019, 1018, 62, 159), (1023, 1022, 63, 159), (1110, 1109, 73, 159), (890, 889, 41, 159), (900, 899, 42, 159), (882, 881, 39, 159), (914, 913, 43, 159), (874, 873, 37, 159), (1117, 1116, 74, 159), (989, 988, 56, 159), (1123, 1122, 75, 159), (893, 892, 0, 172), (408, 407, 0, 160), (0, 0, 0, 152)]
def aLaw : Nat := 241
def aStr : List String := ["kind", "prize", "day", "same", "knew", "won", "lost", "wronged", "like", "back", "strong", "own", "across", "size", "add", "fight", "home", "name", "see", "slip", "when", "or", "and", "not", "apart", "against", "beside", "together", "stir", ""]
