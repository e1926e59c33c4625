/-! ===== the tables of the pure machine: written by wip/whole/gen/tables2.py out of the Statement ===== -/
def pt_nmL : List String := ["AssertionBenchLaw", "AssertionBench", "AssertionBench$Tokens", "AssertionBench$PropertyLexer", "AssertionBench$PropertyReader", "AssertionBench$Weaver", "AssertionBench$DesignReader", "AssertionBench$NumbersReader", "AssertionBench$Property", "AssertionBench$Sequence", "AssertionBench$Classes", "AssertionBench$Design", "java/lang/StringBuilder", "java/lang/AbstractStringBuilder", "java/lang/StringUTF16", "java/util/Arrays", "AssertionBench$Hunt", "java/lang/String", "java/lang/StringLatin1", "jdk/internal/util/Preconditions", "java/lang/Throwable", "java/lang/IllegalArgumentException", "java/lang/RuntimeException", "java/lang/Exception", "java/lang/UnsupportedOperationException", "java/lang/IndexOutOfBoundsException", "java/lang/Integer", "java/lang/IllegalStateException", "java/util/NoSuchElementException", "java/lang/StringIndexOutOfBoundsException", "jdk/internal/util/ArraysSupport", "java/lang/ArrayIndexOutOfBoundsException", "AssertionBenchModel"]
def pt_nm (o : Nat) : String := pt_nmL.getD o ""
def pt_T0 : u_T := fun k => match k with
  | 0 => ("AssertionBench", "tokens", "LAssertionBench$Tokens;", true)
  | 1 => ("AssertionBench", "propertyLexer", "LAssertionBench$PropertyLexer;", true)
  | 2 => ("AssertionBench", "propertyReader", "LAssertionBench$PropertyReader;", true)
  | 3 => ("AssertionBench", "designReader", "LAssertionBench$DesignReader;", true)
  | 4 => ("AssertionBench", "numbersReader", "LAssertionBench$NumbersReader;", true)
  | 5 => ("AssertionBench", "properties", "[LAssertionBench$Property;", true)
  | 6 => ("AssertionBench", "truth", "LAssertionBench$Property;", true)
  | 7 => ("AssertionBench", "wires", "LAssertionBench$Design;", true)
  | 8 => ("AssertionBench", "runs", "LAssertionBench$Hunt;", true)
  | 9 => ("AssertionBench", "witnesses", "LAssertionBench$Hunt;", true)
  | 10 => ("AssertionBench", "letters", "[I", true)
  | 11 => ("AssertionBench", "rows", "[[J", true)
  | 12 => ("AssertionBench", "failedAt", "[I", true)
  | 13 => ("AssertionBench", "spareProperty", "LAssertionBench$Property;", false)
  | 14 => ("AssertionBench", "circuit", "LAssertionBench$Design;", false)
  | 15 => ("AssertionBench", "spareCircuit", "LAssertionBench$Design;", false)
  | 16 => ("AssertionBench", "length", "I", false)
  | _ => ("AssertionBench", "looks", "I", false)
def pt_T1 : u_T := fun k => match k with
  | 0 => ("AssertionBench$Tokens", "signs", "[I", true)
  | 1 => ("AssertionBench$Tokens", "kinds", "[I", true)
  | 2 => ("AssertionBench$Tokens", "places", "[I", true)
  | 3 => ("AssertionBench$Tokens", "lows", "[I", true)
  | 4 => ("AssertionBench$Tokens", "highs", "[I", true)
  | 5 => ("AssertionBench$Tokens", "names", "[J", true)
  | 6 => ("AssertionBench$Tokens", "signCount", "I", false)
  | 7 => ("AssertionBench$Tokens", "count", "I", false)
  | 8 => ("AssertionBench$Tokens", "at", "I", false)
  | _ => ("AssertionBench$Tokens", "fault", "I", false)
def pt_T2 : u_T := fun k => match k with
  | _ => ("AssertionBench$PropertyLexer", "tokens", "LAssertionBench$Tokens;", true)
def pt_T3 : u_T := fun k => match k with
  | 0 => ("AssertionBench$PropertyReader", "tokens", "LAssertionBench$Tokens;", true)
  | 1 => ("AssertionBench$PropertyReader", "weaver", "LAssertionBench$Weaver;", true)
  | 2 => ("AssertionBench$PropertyReader", "parens", "[I", true)
  | 3 => ("AssertionBench$PropertyReader", "lefts", "[Z", true)
  | 4 => ("AssertionBench$PropertyReader", "joints", "[I", true)
  | 5 => ("AssertionBench$PropertyReader", "parenCount", "I", false)
  | 6 => ("AssertionBench$PropertyReader", "jointCount", "I", false)
  | 7 => ("AssertionBench$PropertyReader", "open", "I", false)
  | 8 => ("AssertionBench$PropertyReader", "mode", "I", false)
  | 9 => ("AssertionBench$PropertyReader", "sequencePlace", "I", false)
  | 10 => ("AssertionBench$PropertyReader", "sequencePart", "I", false)
  | _ => ("AssertionBench$PropertyReader", "signalsSeen", "I", false)
def pt_T4 : u_T := fun k => match k with
  | 0 => ("AssertionBench$Weaver", "steps", "[J", true)
  | 1 => ("AssertionBench$Weaver", "masks", "[J", true)
  | 2 => ("AssertionBench$Weaver", "heads", "[J", true)
  | 3 => ("AssertionBench$Weaver", "weights", "[I", true)
  | 4 => ("AssertionBench$Weaver", "froms", "[I", true)
  | 5 => ("AssertionBench$Weaver", "firsts", "[J", true)
  | 6 => ("AssertionBench$Weaver", "lasts", "[J", true)
  | 7 => ("AssertionBench$Weaver", "empties", "[Z", true)
  | 8 => ("AssertionBench$Weaver", "pieces", "I", false)
  | 9 => ("AssertionBench$Weaver", "used", "I", false)
  | _ => ("AssertionBench$Weaver", "full", "Z", false)
def pt_T5 : u_T := fun k => match k with
  | 0 => ("AssertionBench$DesignReader", "tokens", "LAssertionBench$Tokens;", true)
  | 1 => ("AssertionBench$DesignReader", "names", "[J", true)
  | 2 => ("AssertionBench$DesignReader", "literals", "[I", true)
  | 3 => ("AssertionBench$DesignReader", "firsts", "[I", true)
  | _ => ("AssertionBench$DesignReader", "nameCount", "I", false)
def pt_T6 : u_T := fun k => match k with
  | _ => ("AssertionBench$NumbersReader", "tokens", "LAssertionBench$Tokens;", true)
def pt_T7 : u_T := fun k => match k with
  | 0 => ("AssertionBench$Property", "kinds", "[I", true)
  | 1 => ("AssertionBench$Property", "conditions", "[J", true)
  | 2 => ("AssertionBench$Property", "seconds", "[J", true)
  | 3 => ("AssertionBench$Property", "counts", "[I", true)
  | 4 => ("AssertionBench$Property", "links", "[I", true)
  | 5 => ("AssertionBench$Property", "slots", "[I", true)
  | 6 => ("AssertionBench$Property", "sequences", "[LAssertionBench$Sequence;", true)
  | 7 => ("AssertionBench$Property", "classes", "[LAssertionBench$Classes;", true)
  | 8 => ("AssertionBench$Property", "parts", "I", false)
  | 9 => ("AssertionBench$Property", "sequenceCount", "I", false)
  | _ => ("AssertionBench$Property", "rowSize", "I", false)
def pt_T8 : u_T := fun k => match k with
  | 0 => ("AssertionBench$Sequence", "steps", "[J", false)
  | 1 => ("AssertionBench$Sequence", "states", "I", false)
  | 2 => ("AssertionBench$Sequence", "weight", "I", false)
  | 3 => ("AssertionBench$Sequence", "signals", "I", false)
  | 4 => ("AssertionBench$Sequence", "accepting", "J", false)
  | _ => ("AssertionBench$Sequence", "leading", "J", false)
def pt_T9 : u_T := fun k => match k with
  | 0 => ("AssertionBench$Classes", "sets", "[J", true)
  | 1 => ("AssertionBench$Classes", "kinds", "[I", true)
  | 2 => ("AssertionBench$Classes", "groups", "[I", true)
  | 3 => ("AssertionBench$Classes", "finer", "[I", true)
  | 4 => ("AssertionBench$Classes", "table", "[I", false)
  | 5 => ("AssertionBench$Classes", "signals", "I", false)
  | 6 => ("AssertionBench$Classes", "letterCount", "I", false)
  | 7 => ("AssertionBench$Classes", "setCount", "I", false)
  | _ => ("AssertionBench$Classes", "classCount", "I", false)
def pt_T10 : u_T := fun k => match k with
  | 0 => ("AssertionBench$Design", "ones", "[I", true)
  | 1 => ("AssertionBench$Design", "twos", "[I", true)
  | 2 => ("AssertionBench$Design", "nexts", "[I", true)
  | 3 => ("AssertionBench$Design", "firsts", "[Z", true)
  | 4 => ("AssertionBench$Design", "signals", "[I", true)
  | 5 => ("AssertionBench$Design", "values", "[I", true)
  | 6 => ("AssertionBench$Design", "written", "Ljava/lang/StringBuilder;", true)
  | 7 => ("AssertionBench$Design", "isWritten", "Z", false)
  | 8 => ("AssertionBench$Design", "inputs", "I", false)
  | 9 => ("AssertionBench$Design", "latches", "I", false)
  | _ => ("AssertionBench$Design", "gates", "I", false)
def pt_T11 : u_T := fun k => match k with
  | 0 => ("AssertionBench$Hunt", "tries", "[I", true)
  | 1 => ("AssertionBench$Hunt", "latches", "[I", true)
  | 2 => ("AssertionBench$Hunt", "letters", "[I", true)
  | 3 => ("AssertionBench$Hunt", "foundInputs", "[I", true)
  | 4 => ("AssertionBench$Hunt", "foundLetters", "[I", true)
  | 5 => ("AssertionBench$Hunt", "foundLatches", "[I", true)
  | 6 => ("AssertionBench$Hunt", "cycles", "[I", true)
  | 7 => ("AssertionBench$Hunt", "rows", "[J", false)
  | _ => ("AssertionBench$Hunt", "found", "I", false)
def pt_T12 : u_T := fun k => match k with
  | 0 => ("AssertionBenchModel", "thrown", "I", false)
  | 1 => ("AssertionBenchModel", "text", "[I", true)
  | 2 => ("AssertionBenchModel", "size", "I", false)
  | 3 => ("AssertionBenchModel", "token", "I", false)
  | 4 => ("AssertionBenchModel", "place", "I", false)
  | 5 => ("AssertionBenchModel", "end", "I", false)
  | 6 => ("AssertionBenchModel", "low", "I", false)
  | 7 => ("AssertionBenchModel", "high", "I", false)
  | 8 => ("AssertionBenchModel", "fault", "I", false)
  | 9 => ("AssertionBenchModel", "opened", "I", false)
  | 10 => ("AssertionBenchModel", "kind", "[I", true)
  | 11 => ("AssertionBenchModel", "left", "[I", true)
  | 12 => ("AssertionBenchModel", "right", "[I", true)
  | 13 => ("AssertionBenchModel", "least", "[I", true)
  | 14 => ("AssertionBenchModel", "most", "[I", true)
  | 15 => ("AssertionBenchModel", "weight", "[I", true)
  | 16 => ("AssertionBenchModel", "nodes", "I", false)
  | 17 => ("AssertionBenchModel", "terms", "[I", true)
  | 18 => ("AssertionBenchModel", "termCount", "I", false)
  | 19 => ("AssertionBenchModel", "root", "I", false)
  | 20 => ("AssertionBenchModel", "first", "I", false)
  | 21 => ("AssertionBenchModel", "keptKind", "[I", true)
  | 22 => ("AssertionBenchModel", "keptLeft", "[I", true)
  | 23 => ("AssertionBenchModel", "keptRight", "[I", true)
  | 24 => ("AssertionBenchModel", "keptLeast", "[I", true)
  | 25 => ("AssertionBenchModel", "keptWeight", "[I", true)
  | 26 => ("AssertionBenchModel", "keptMost", "[I", true)
  | 27 => ("AssertionBenchModel", "keptTerms", "[I", true)
  | 28 => ("AssertionBenchModel", "all", "[I", true)
  | 29 => ("AssertionBenchModel", "allTerms", "[I", true)
  | 30 => ("AssertionBenchModel", "allWeights", "[I", true)
  | 31 => ("AssertionBenchModel", "wilds", "[I", true)
  | 32 => ("AssertionBenchModel", "wild", "I", false)
  | 33 => ("AssertionBenchModel", "counts", "[I", true)
  | 34 => ("AssertionBenchModel", "termCounts", "[I", true)
  | 35 => ("AssertionBenchModel", "roots", "[I", true)
  | 36 => ("AssertionBenchModel", "sequences", "[I", true)
  | 37 => ("AssertionBenchModel", "keptNodes", "I", false)
  | 38 => ("AssertionBenchModel", "keptRoot", "I", false)
  | 39 => ("AssertionBenchModel", "keptFirst", "I", false)
  | 40 => ("AssertionBenchModel", "operands", "[I", true)
  | 41 => ("AssertionBenchModel", "operators", "[I", true)
  | 42 => ("AssertionBenchModel", "frames", "[I", true)
  | 43 => ("AssertionBenchModel", "frameNodes", "[I", true)
  | 44 => ("AssertionBenchModel", "frameCounts", "[I", true)
  | 45 => ("AssertionBenchModel", "word", "[I", true)
  | 46 => ("AssertionBenchModel", "length", "I", false)
  | 47 => ("AssertionBenchModel", "failed", "[I", true)
  | 48 => ("AssertionBenchModel", "letters", "[I", true)
  | 49 => ("AssertionBenchModel", "looked", "I", false)
  | 50 => ("AssertionBenchModel", "ends", "[J", true)
  | 51 => ("AssertionBenchModel", "round", "[J", true)
  | 52 => ("AssertionBenchModel", "other", "[J", true)
  | 53 => ("AssertionBenchModel", "setLow", "J", false)
  | 54 => ("AssertionBenchModel", "setHigh", "J", false)
  | 55 => ("AssertionBenchModel", "fails", "[Z", true)
  | 56 => ("AssertionBenchModel", "inputs", "I", false)
  | 57 => ("AssertionBenchModel", "latches", "I", false)
  | 58 => ("AssertionBenchModel", "gates", "I", false)
  | 59 => ("AssertionBenchModel", "ones", "[I", true)
  | 60 => ("AssertionBenchModel", "twos", "[I", true)
  | 61 => ("AssertionBenchModel", "nexts", "[I", true)
  | 62 => ("AssertionBenchModel", "firsts", "[Z", true)
  | 63 => ("AssertionBenchModel", "signals", "[I", true)
  | 64 => ("AssertionBenchModel", "values", "[Z", true)
  | 65 => ("AssertionBenchModel", "searches", "I", false)
  | 66 => ("AssertionBenchModel", "found", "I", false)
  | 67 => ("AssertionBenchModel", "runInputs", "[I", true)
  | 68 => ("AssertionBenchModel", "runLetters", "[I", true)
  | 69 => ("AssertionBenchModel", "runLatches", "[I", true)
  | 70 => ("AssertionBenchModel", "witnessed", "I", false)
  | 71 => ("AssertionBenchModel", "witness", "[I", true)
  | 72 => ("AssertionBenchModel", "frameCount", "I", false)
  | 73 => ("AssertionBenchModel", "masks", "[J", true)
  | 74 => ("AssertionBenchModel", "behind", "[J", true)
  | 75 => ("AssertionBenchModel", "taken", "I", false)
  | 76 => ("AssertionBenchModel", "marked", "[Z", true)
  | 77 => ("AssertionBenchModel", "local", "[I", true)
  | 78 => ("AssertionBenchModel", "froms", "[I", true)
  | 79 => ("AssertionBenchModel", "tos", "[I", true)
  | 80 => ("AssertionBenchModel", "firstOnes", "[J", true)
  | 81 => ("AssertionBenchModel", "lastOnes", "[J", true)
  | 82 => ("AssertionBenchModel", "ofNone", "[Z", true)
  | 83 => ("AssertionBenchModel", "stateNext", "[J", true)
  | 84 => ("AssertionBenchModel", "stateIs", "[Z", true)
  | 85 => ("AssertionBenchModel", "stateMoves", "[I", true)
  | 86 => ("AssertionBenchModel", "part0", "[I", true)
  | 87 => ("AssertionBenchModel", "part1", "[I", true)
  | 88 => ("AssertionBenchModel", "states", "I", false)
  | 89 => ("AssertionBenchModel", "classCounts", "[I", true)
  | 90 => ("AssertionBenchModel", "classKinds", "[I", true)
  | 91 => ("AssertionBenchModel", "classMoves", "[I", true)
  | 92 => ("AssertionBenchModel", "partNodes", "[I", true)
  | 93 => ("AssertionBenchModel", "partSlots", "[I", true)
  | 94 => ("AssertionBenchModel", "parts", "I", false)
  | 95 => ("AssertionBenchModel", "waiting", "[I", true)
  | 96 => ("AssertionBenchModel", "begun", "[Z", true)
  | 97 => ("AssertionBenchModel", "names", "[I", true)
  | 98 => ("AssertionBenchModel", "nameLengths", "[I", true)
  | 99 => ("AssertionBenchModel", "literals", "[I", true)
  | 100 => ("AssertionBenchModel", "nameCount", "I", false)
  | 101 => ("AssertionBenchModel", "newInputs", "I", false)
  | 102 => ("AssertionBenchModel", "newLatches", "I", false)
  | 103 => ("AssertionBenchModel", "newGates", "I", false)
  | 104 => ("AssertionBenchModel", "newOnes", "[I", true)
  | 105 => ("AssertionBenchModel", "newTwos", "[I", true)
  | 106 => ("AssertionBenchModel", "newNexts", "[I", true)
  | 107 => ("AssertionBenchModel", "newFirsts", "[Z", true)
  | 108 => ("AssertionBenchModel", "newSignals", "[I", true)
  | 109 => ("AssertionBenchModel", "pile", "[I", true)
  | 110 => ("AssertionBenchModel", "piled", "I", false)
  | 111 => ("AssertionBenchModel", "sum", "I", false)
  | 112 => ("AssertionBenchModel", "sumSign", "I", false)
  | 113 => ("AssertionBenchModel", "sumPlace", "I", false)
  | 114 => ("AssertionBenchModel", "part", "I", false)
  | 115 => ("AssertionBenchModel", "partPlace", "I", false)
  | 116 => ("AssertionBenchModel", "turned", "Z", false)
  | 117 => ("AssertionBenchModel", "wanted", "I", false)
  | 118 => ("AssertionBenchModel", "written", "I", false)
  | _ => ("AssertionBenchModel", "sought", "I", false)
def pt_T13 : u_T := fun k => match k with
  | 0 => ("java/lang/AbstractStringBuilder", "value", "[B", false)
  | 1 => ("java/lang/AbstractStringBuilder", "coder", "B", false)
  | 2 => ("java/lang/AbstractStringBuilder", "maybeLatin1", "Z", false)
  | _ => ("java/lang/AbstractStringBuilder", "count", "I", false)
def pt_T14 : u_T := fun k => match k with
  | 0 => ("java/lang/String", "value", "[B", true)
  | 1 => ("java/lang/String", "coder", "B", true)
  | 2 => ("java/lang/String", "hash", "I", false)
  | _ => ("java/lang/String", "hashIsZero", "Z", false)
def pt_cl : List vw_C := [("AssertionBench", pt_T0, 18), ("AssertionBench$Tokens", pt_T1, 10), ("AssertionBench$PropertyLexer", pt_T2, 1), ("AssertionBench$PropertyReader", pt_T3, 12), ("AssertionBench$Weaver", pt_T4, 11), ("AssertionBench$DesignReader", pt_T5, 5), ("AssertionBench$NumbersReader", pt_T6, 1), ("AssertionBench$Property", pt_T7, 11), ("AssertionBench$Sequence", pt_T8, 6), ("AssertionBench$Classes", pt_T9, 9), ("AssertionBench$Design", pt_T10, 11), ("AssertionBench$Hunt", pt_T11, 9), ("AssertionBenchModel", pt_T12, 120), ("java/lang/StringBuilder", pt_T13, 4), ("java/lang/String", pt_T14, 4)]
def pt_fzL : List (List Value) := [[.null, .null, .null, .null, .null, .null, .null, .null, .null, .null, .null, .null, .null, .null, .null, .null, .int 0, .int 0], [.null, .null, .null, .null, .null, .null, .int 0, .int 0, .int 0, .int 0], [.null], [.null, .null, .null, .null, .null, .int 0, .int 0, .int 0, .int 0, .int 0, .int 0, .int 0], [.null, .null, .null, .null, .null, .null, .null, .null, .int 0, .int 0, .int 0], [.null, .null, .null, .null, .int 0], [.null], [.null, .null, .null, .null, .null, .null, .null, .null, .int 0, .int 0, .int 0], [.null, .int 0, .int 0, .int 0, .long 0, .long 0], [.null, .null, .null, .null, .null, .int 0, .int 0, .int 0, .int 0], [.null, .null, .null, .null, .null, .null, .null, .int 0, .int 0, .int 0, .int 0], [.null, .null, .null, .null, .null, .null, .null, .null, .int 0], [.int 0, .null, .int 0, .int 0, .int 0, .int 0, .int 0, .int 0, .int 0, .int 0, .null, .null, .null, .null, .null, .null, .int 0, .null, .int 0, .int 0, .int 0, .null, .null, .null, .null, .null, .null, .null, .null, .null, .null, .null, .int 0, .null, .null, .null, .null, .int 0, .int 0, .int 0, .null, .null, .null, .null, .null, .null, .int 0, .null, .null, .int 0, .null, .null, .null, .long 0, .long 0, .null, .int 0, .int 0, .int 0, .null, .null, .null, .null, .null, .null, .int 0, .int 0, .null, .null, .null, .int 0, .null, .int 0, .null, .null, .int 0, .null, .null, .null, .null, .null, .null, .null, .null, .null, .null, .null, .null, .int 0, .null, .null, .null, .null, .null, .int 0, .null, .null, .null, .null, .null, .int 0, .int 0, .int 0, .int 0, .null, .null, .null, .null, .null, .null, .int 0, .int 0, .int 0, .int 0, .int 0, .int 0, .int 0, .int 0, .int 0, .int 0], [.null, .int 0, .int 0, .int 0], [.null, .int 0, .int 0, .int 0]]
def pt_fz (c : Nat) : List Value := pt_fzL.getD c []
def pt_tk : Nat → FieldType
  | 0 => .int
  | 1 => .long
  | 2 => .boolean
  | 3 => .byte
  | 4 => .object "AssertionBench$Property"
  | 5 => .object "AssertionBench$Sequence"
  | 6 => .object "AssertionBench$Classes"
  | _ => .array .long
def pt_FL : List (List (Nat × (Nat × Nat × Bool × FieldType))) := [[],
  [(10, (0, 0, true, .object "AssertionBench$Tokens")), (21, (0, 1, true, .object "AssertionBench$PropertyLexer")), (28, (0, 2, true, .object "AssertionBench$PropertyReader")), (35, (0, 3, true, .object "AssertionBench$DesignReader")), (42, (0, 4, true, .object "AssertionBench$NumbersReader")), (49, (0, 5, true, .array (.object "AssertionBench$Property"))), (53, (0, 6, true, .object "AssertionBench$Property")), (60, (0, 7, true, .object "AssertionBench$Design")), (67, (0, 8, true, .object "AssertionBench$Hunt")), (71, (0, 9, true, .object "AssertionBench$Hunt")), (74, (0, 10, true, .array .int)), (80, (0, 11, true, .array (.array .long))), (83, (0, 12, true, .array .int)), (86, (0, 13, false, .object "AssertionBench$Property")), (89, (0, 14, false, .object "AssertionBench$Design")), (92, (0, 15, false, .object "AssertionBench$Design")), (132, (0, 16, false, .int)), (255, (0, 17, false, .int))],
  [(9, (1, 0, true, .array .int)), (15, (1, 1, true, .array .int)), (18, (1, 2, true, .array .int)), (21, (1, 3, true, .array .int)), (24, (1, 4, true, .array .int)), (27, (1, 5, true, .array .long)), (31, (1, 9, false, .int)), (35, (1, 6, false, .int)), (60, (1, 7, false, .int)), (63, (1, 8, false, .int))],
  [(9, (2, 0, true, .object "AssertionBench$Tokens"))],
  [(12, (3, 1, true, .object "AssertionBench$Weaver")), (18, (3, 2, true, .array .int)), (22, (3, 3, true, .array .boolean)), (26, (3, 4, true, .array .int)), (29, (3, 0, true, .object "AssertionBench$Tokens")), (38, (3, 5, false, .int)), (42, (3, 6, false, .int)), (45, (3, 7, false, .int)), (48, (3, 8, false, .int)), (141, (3, 10, false, .int)), (147, (3, 9, false, .int)), (150, (3, 11, false, .int))],
  [(11, (4, 0, true, .array .long)), (15, (4, 1, true, .array .long)), (18, (4, 2, true, .array .long)), (21, (4, 3, true, .array .int)), (25, (4, 4, true, .array .int)), (28, (4, 5, true, .array .long)), (31, (4, 6, true, .array .long)), (34, (4, 7, true, .array .boolean)), (38, (4, 8, false, .int)), (42, (4, 9, false, .int)), (45, (4, 10, false, .boolean))],
  [(11, (5, 1, true, .array .long)), (15, (5, 2, true, .array .int)), (21, (5, 3, true, .array .int)), (24, (5, 0, true, .object "AssertionBench$Tokens")), (31, (5, 4, false, .int))],
  [(11, (6, 0, true, .object "AssertionBench$Tokens"))],
  [(11, (7, 0, true, .array .int)), (15, (7, 1, true, .array .long)), (19, (7, 2, true, .array .long)), (22, (7, 3, true, .array .int)), (25, (7, 4, true, .array .int)), (28, (7, 5, true, .array .int)), (33, (7, 6, true, .array (.object "AssertionBench$Sequence"))), (39, (7, 7, true, .array (.object "AssertionBench$Classes"))), (45, (7, 8, false, .int)), (51, (7, 10, false, .int)), (54, (7, 9, false, .int))],
  [(15, (8, 0, false, .array .long)), (18, (8, 1, false, .int)), (22, (8, 2, false, .int)), (25, (8, 3, false, .int)), (28, (8, 4, false, .long)), (32, (8, 5, false, .long))],
  [(11, (9, 0, true, .array .long)), (15, (9, 1, true, .array .int)), (19, (9, 2, true, .array .int)), (22, (9, 3, true, .array .int)), (28, (9, 4, false, .array .int)), (31, (9, 8, false, .int)), (35, (9, 5, false, .int)), (50, (9, 6, false, .int)), (66, (9, 7, false, .int))],
  [(11, (10, 0, true, .array .int)), (15, (10, 1, true, .array .int)), (18, (10, 2, true, .array .int)), (21, (10, 3, true, .array .boolean)), (25, (10, 4, true, .array .int)), (28, (10, 5, true, .array .int)), (34, (10, 6, true, .object "java/lang/StringBuilder")), (38, (10, 8, false, .int)), (48, (10, 9, false, .int)), (51, (10, 10, false, .int)), (58, (10, 7, false, .boolean))],
  [],
  [(15, (13, 0, false, .array .byte)), (22, (13, 1, false, .byte)), (73, (13, 2, false, .boolean)), (79, (13, 3, false, .int))],
  [],
  [],
  [(11, (11, 0, true, .array .int)), (15, (11, 1, true, .array .int)), (18, (11, 2, true, .array .int)), (21, (11, 3, true, .array .int)), (24, (11, 4, true, .array .int)), (27, (11, 5, true, .array .int)), (32, (11, 6, true, .array .int)), (39, (11, 7, false, .array .long)), (42, (11, 8, false, .int))],
  [(9, (14, 0, true, .array .byte)), (15, (14, 1, true, .byte)), (1048, (13, 2, false, .boolean))],
  [],
  [],
  [],
  [],
  [],
  [],
  [],
  [],
  [],
  [],
  [],
  [],
  [],
  [],
  [(7, (12, 1, true, .array .int)), (13, (12, 10, true, .array .int)), (16, (12, 11, true, .array .int)), (19, (12, 12, true, .array .int)), (22, (12, 13, true, .array .int)), (25, (12, 14, true, .array .int)), (28, (12, 15, true, .array .int)), (31, (12, 17, true, .array .int)), (34, (12, 21, true, .array .int)), (37, (12, 22, true, .array .int)), (40, (12, 23, true, .array .int)), (43, (12, 24, true, .array .int)), (46, (12, 25, true, .array .int)), (49, (12, 26, true, .array .int)), (52, (12, 27, true, .array .int)), (55, (12, 28, true, .array .int)), (58, (12, 29, true, .array .int)), (61, (12, 30, true, .array .int)), (64, (12, 31, true, .array .int)), (67, (12, 33, true, .array .int)), (70, (12, 34, true, .array .int)), (73, (12, 35, true, .array .int)), (76, (12, 36, true, .array .int)), (79, (12, 40, true, .array .int)), (82, (12, 41, true, .array .int)), (85, (12, 42, true, .array .int)), (88, (12, 43, true, .array .int)), (91, (12, 44, true, .array .int)), (94, (12, 45, true, .array .int)), (97, (12, 47, true, .array .int)), (100, (12, 48, true, .array .int)), (104, (12, 50, true, .array .long)), (108, (12, 51, true, .array .long)), (111, (12, 52, true, .array .long)), (114, (12, 55, true, .array .boolean)), (118, (12, 56, false, .int)), (122, (12, 59, true, .array .int)), (125, (12, 60, true, .array .int)), (128, (12, 61, true, .array .int)), (131, (12, 62, true, .array .boolean)), (134, (12, 63, true, .array .int)), (137, (12, 64, true, .array .boolean)), (140, (12, 67, true, .array .int)), (143, (12, 68, true, .array .int)), (146, (12, 69, true, .array .int)), (149, (12, 71, true, .array .int)), (152, (12, 73, true, .array .long)), (155, (12, 74, true, .array .long)), (158, (12, 76, true, .array .boolean)), (161, (12, 77, true, .array .int)), (164, (12, 78, true, .array .int)), (167, (12, 79, true, .array .int)), (170, (12, 80, true, .array .long)), (173, (12, 81, true, .array .long)), (176, (12, 82, true, .array .boolean)), (179, (12, 83, true, .array .long)), (182, (12, 84, true, .array .boolean)), (185, (12, 85, true, .array .int)), (188, (12, 86, true, .array .int)), (191, (12, 87, true, .array .int)), (194, (12, 89, true, .array .int)), (197, (12, 90, true, .array .int)), (201, (12, 91, true, .array .int)), (204, (12, 92, true, .array .int)), (207, (12, 93, true, .array .int)), (210, (12, 95, true, .array .int)), (213, (12, 96, true, .array .boolean)), (216, (12, 97, true, .array .int)), (219, (12, 98, true, .array .int)), (222, (12, 99, true, .array .int)), (225, (12, 104, true, .array .int)), (228, (12, 105, true, .array .int)), (231, (12, 106, true, .array .int)), (234, (12, 107, true, .array .boolean)), (237, (12, 108, true, .array .int)), (240, (12, 109, true, .array .int)), (243, (12, 0, false, .int)), (246, (12, 2, false, .int)), (257, (12, 5, false, .int)), (260, (12, 4, false, .int)), (271, (12, 6, false, .int)), (274, (12, 7, false, .int)), (280, (12, 3, false, .int)), (293, (12, 8, false, .int)), (303, (12, 9, false, .int)), (306, (12, 16, false, .int)), (309, (12, 18, false, .int)), (346, (12, 20, false, .int)), (349, (12, 72, false, .int)), (375, (12, 46, false, .int)), (378, (12, 66, false, .int)), (381, (12, 70, false, .int)), (384, (12, 37, false, .int)), (387, (12, 38, false, .int)), (390, (12, 39, false, .int)), (393, (12, 32, false, .int)), (396, (12, 49, false, .int)), (406, (12, 53, false, .long)), (410, (12, 54, false, .long)), (521, (12, 75, false, .int)), (557, (12, 88, false, .int)), (589, (12, 94, false, .int)), (631, (12, 57, false, .int)), (634, (12, 58, false, .int)), (653, (12, 65, false, .int)), (664, (12, 100, false, .int)), (670, (12, 103, false, .int)), (673, (12, 101, false, .int)), (676, (12, 102, false, .int)), (679, (12, 116, false, .boolean)), (686, (12, 114, false, .int)), (689, (12, 115, false, .int)), (695, (12, 111, false, .int)), (698, (12, 112, false, .int)), (701, (12, 113, false, .int)), (704, (12, 110, false, .int)), (761, (12, 118, false, .int)), (764, (12, 117, false, .int)), (767, (12, 119, false, .int))]]
def pt_KL : List (List (Nat × Nat)) := [[(8, 0), (97, 12)],
  [(7, 1), (16, 2), (25, 3), (32, 5), (39, 6), (46, 7), (57, 10), (64, 11)],
  [],
  [],
  [(9, 4)],
  [],
  [],
  [],
  [(31, 8), (37, 9)],
  [],
  [],
  [(31, 13)],
  [(18, 14)],
  [],
  [],
  [(45, 13)],
  [],
  [],
  [],
  [],
  [],
  [],
  [],
  [],
  [],
  [],
  [],
  [],
  [],
  [(10, 13)],
  [],
  [(10, 13)],
  []]
def pt_KAL : List (List (Nat × Nat)) := [[],
  [(46, 0), (65614, 3)],
  [],
  [],
  [],
  [],
  [],
  [],
  [(31, 1), (37, 2)],
  [],
  [],
  [],
  [],
  [],
  [],
  [],
  [],
  [],
  [],
  [],
  [],
  [],
  [],
  [],
  [],
  [],
  [],
  [],
  [],
  [],
  [],
  [],
  []]
def pt_GL : List (List (Nat × Value)) := [[],
  [],
  [],
  [],
  [(231, .long (-1))],
  [(90, .long (-1)), (103, .long 3)],
  [(144, .long 6)],
  [],
  [(49, .long (-1)), (103, .long 2)],
  [],
  [],
  [],
  [],
  [(39, .int 2147483647)],
  [(20, .int 1073741823)],
  [],
  [(60, .int 1000000)],
  [],
  [],
  [],
  [],
  [],
  [],
  [],
  [],
  [],
  [(265, .int 1431655765), (266, .int 858993459), (267, .int 252645135)],
  [],
  [],
  [],
  [(200, .int 2147483639)],
  [],
  [(103, .int 137600), (200, .int 163840), (439, .long (-1))]]
def pt_ML : List (List (Nat × (Nat × Nat))) := [[(7, (0, 90)), (17, (0, 98)), (21, (0, 100)), (26, (0, 173)), (29, (0, 187)), (32, (0, 189)), (38, (0, 197)), (41, (0, 200)), (44, (0, 216)), (48, (0, 220)), (51, (0, 222)), (55, (0, 225)), (58, (0, 232)), (64, (0, 241)), (67, (0, 306)), (70, (0, 311)), (74, (0, 313)), (77, (0, 316)), (81, (0, 318)), (84, (0, 320)), (87, (0, 332)), (90, (0, 339)), (93, (0, 341)), (96, (2, 1)), (99, (2, 342)), (100, (9, 89)), (105, (0, 344)), (106, (0, 343)), (110, (9, 97)), (113, (0, 346)), (114, (9, 99)), (116, (0, 347)), (117, (9, 172)), (119, (0, 375)), (120, (0, 18)), (123, (0, 410)), (124, (9, 186)), (126, (0, 411)), (127, (9, 188)), (130, (0, 412)), (131, (9, 196)), (133, (0, 414)), (134, (9, 199)), (136, (0, 415)), (137, (9, 215)), (139, (0, 433)), (140, (9, 219)), (142, (0, 435)), (143, (9, 221)), (146, (0, 436)), (147, (9, 224)), (149, (0, 437)), (150, (9, 231)), (152, (0, 442)), (153, (0, 20)), (156, (0, 465)), (157, (0, 81)), (160, (0, 486)), (161, (9, 240)), (163, (0, 490)), (164, (9, 305)), (166, (0, 493)), (167, (9, 310)), (170, (0, 451)), (171, (9, 312)), (173, (0, 452)), (174, (9, 315)), (177, (0, 454)), (178, (9, 317)), (180, (0, 455)), (181, (9, 319)), (183, (0, 456)), (184, (9, 331)), (186, (0, 462)), (187, (9, 338)), (189, (0, 463)), (190, (9, 340)), (192, (0, 464))],
  [(1, (6, 0)), (9, (3, 2)), (18, (2, 3)), (27, (2, 4)), (34, (2, 6)), (41, (2, 7)), (48, (2, 8)), (59, (2, 11)), (66, (3, 17)), (98, (0, 24)), (105, (0, 96)), (109, (0, 79)), (112, (4, 101)), (115, (0, 103)), (118, (0, 111)), (122, (0, 19)), (125, (0, 80)), (128, (4, 174)), (136, (0, 175)), (140, (0, 176)), (144, (0, 190)), (148, (0, 194)), (152, (0, 195)), (156, (0, 180)), (162, (0, 198)), (165, (0, 201)), (168, (0, 203)), (172, (0, 214)), (177, (0, 217)), (181, (0, 218)), (185, (0, 223)), (189, (0, 226)), (192, (0, 228)), (198, (0, 234)), (202, (0, 21)), (205, (0, 78)), (208, (0, 82)), (212, (0, 242)), (215, (0, 307)), (218, (0, 308)), (221, (0, 309)), (224, (0, 69)), (227, (0, 58)), (231, (0, 314)), (234, (0, 71)), (237, (0, 75)), (240, (0, 60)), (244, (0, 76)), (247, (0, 227)), (251, (0, 321)), (258, (0, 322)), (262, (4, 333)), (266, (0, 335)), (269, (0, 336)), (272, (0, 337)), (275, (0, 191)), (278, (0, 192)), (284, (0, 202)), (287, (0, 334)), (290, (0, 181))],
  [(3, (6, 0)), (38, (0, 26)), (42, (0, 34)), (48, (0, 37)), (52, (0, 29)), (56, (0, 36)), (66, (0, 28)), (70, (0, 27)), (74, (0, 50)), (77, (0, 51)), (80, (0, 52))],
  [(3, (6, 0)), (15, (0, 23)), (20, (0, 24)), (24, (0, 104)), (28, (0, 47)), (31, (0, 26)), (34, (0, 105)), (37, (0, 108)), (42, (0, 36)), (46, (0, 27)), (52, (0, 32)), (55, (0, 29)), (59, (0, 109)), (68, (0, 31)), (71, (0, 28)), (75, (0, 110)), (81, (0, 33)), (103, (0, 106)), (106, (0, 107)), (113, (0, 85))],
  [(3, (6, 0)), (11, (3, 5)), (33, (0, 112)), (51, (0, 61)), (57, (0, 114)), (61, (0, 127)), (64, (0, 134)), (67, (0, 146)), (70, (0, 171)), (73, (0, 77)), (77, (0, 50)), (80, (0, 115)), (84, (0, 51)), (87, (0, 116)), (91, (0, 120)), (94, (0, 122)), (97, (0, 123)), (100, (0, 87)), (103, (0, 121)), (107, (0, 124)), (111, (0, 126)), (115, (0, 52)), (118, (0, 49)), (122, (0, 128)), (125, (0, 131)), (128, (0, 129)), (131, (0, 130)), (134, (0, 132)), (138, (0, 133)), (144, (0, 67)), (153, (0, 117)), (156, (0, 118)), (159, (0, 119)), (162, (0, 135)), (166, (0, 137)), (170, (0, 138)), (173, (0, 139)), (176, (0, 143)), (179, (0, 145)), (183, (4, 147)), (186, (0, 148)), (189, (0, 159)), (192, (0, 149)), (195, (0, 152)), (198, (0, 156)), (201, (0, 157)), (204, (0, 160)), (207, (0, 70)), (210, (0, 161)), (214, (0, 162)), (218, (0, 169)), (221, (0, 170)), (224, (0, 125))],
  [(3, (6, 0)), (49, (0, 136)), (53, (4, 141)), (57, (0, 142)), (61, (10, 0)), (67, (0, 150)), (71, (0, 151)), (74, (0, 140)), (78, (0, 153)), (82, (0, 154)), (86, (0, 155)), (92, (0, 158)), (96, (11, 0)), (99, (0, 144)), (107, (0, 163)), (110, (0, 164)), (114, (0, 166))],
  [(3, (6, 0)), (28, (0, 22)), (35, (0, 48)), (39, (0, 57)), (42, (0, 58)), (46, (0, 60)), (50, (0, 50)), (55, (0, 61)), (59, (4, 62)), (63, (0, 63)), (67, (0, 52)), (70, (0, 77)), (73, (0, 23)), (76, (0, 24)), (79, (0, 25)), (83, (0, 47)), (86, (0, 26)), (89, (0, 27)), (93, (0, 29)), (96, (0, 30)), (99, (0, 32)), (102, (0, 31)), (107, (0, 33)), (119, (0, 46)), (123, (0, 49)), (127, (0, 53)), (131, (0, 56)), (134, (0, 51)), (137, (0, 54)), (140, (0, 55)), (146, (0, 64)), (150, (0, 75)), (153, (0, 76)), (156, (0, 65)), (159, (0, 67)), (162, (0, 73)), (166, (0, 74)), (169, (0, 66)), (172, (0, 68)), (176, (0, 71)), (179, (0, 69)), (182, (0, 70))],
  [(5, (6, 0)), (17, (0, 83)), (22, (0, 49)), (26, (0, 86)), (30, (0, 52)), (33, (0, 61)), (37, (0, 58)), (41, (0, 88)), (45, (0, 77)), (49, (0, 59)), (53, (0, 75)), (56, (0, 60)), (60, (0, 76)), (63, (0, 72)), (66, (0, 71)), (69, (0, 23)), (72, (0, 24)), (75, (0, 26)), (80, (0, 36)), (84, (0, 27)), (88, (0, 84)), (91, (0, 47)), (94, (0, 85)), (98, (0, 32)), (101, (0, 28)), (105, (0, 87))],
  [(5, (6, 0)), (43, (3, 9)), (44, (3, 10)), (57, (0, 113)), (60, (10, 0)), (66, (0, 202)), (70, (0, 204)), (74, (0, 205)), (78, (0, 177)), (82, (4, 178)), (86, (0, 179)), (90, (0, 182)), (94, (0, 183)), (97, (0, 185)), (100, (4, 184)), (105, (0, 180)), (109, (0, 181)), (113, (0, 229)), (117, (0, 203)), (121, (0, 230)), (124, (0, 235)), (128, (0, 236)), (132, (0, 239)), (135, (0, 237)), (139, (0, 217)), (143, (0, 238))],
  [(3, (6, 0)), (35, (4, 165)), (41, (0, 167)), (45, (4, 168))],
  [(3, (6, 0)), (38, (0, 218)), (42, (0, 206)), (47, (0, 167)), (52, (0, 207)), (56, (0, 209)), (59, (0, 210)), (63, (0, 212)), (69, (0, 181)), (73, (0, 208)), (77, (0, 180)), (81, (0, 198)), (84, (0, 211)), (88, (8, 0)), (94, (0, 213))],
  [(3, (6, 0)), (33, (2, 12)), (42, (4, 16)), (54, (0, 59)), (62, (0, 72)), (65, (10, 0)), (71, (0, 329)), (74, (0, 243)), (77, (0, 280)), (81, (0, 303)), (85, (0, 244)), (91, (0, 247)), (95, (0, 298)), (98, (0, 299)), (101, (0, 270))],
  [(1, (2, 13)), (29, (7, 248)), (50, (7, 300)), (53, (7, 271)), (137, (2, 277)), (329, (7, 304)), (333, (7, 245)), (343, (7, 281))],
  [(3, (6, 0)), (26, (4, 14)), (32, (0, 34)), (40, (0, 35)), (83, (5, 255)), (100, (5, 250)), (104, (5, 251)), (108, (4, 254)), (114, (4, 252)), (125, (4, 264)), (133, (4, 293)), (137, (4, 297)), (138, (10, 0)), (144, (4, 40)), (148, (4, 45)), (191, (4, 301)), (195, (5, 263)), (197, (4, 302)), (204, (5, 249)), (208, (5, 261)), (226, (4, 256)), (245, (4, 272)), (248, (4, 273)), (251, (4, 274)), (397, (5, 262)), (399, (0, 269))],
  [(11, (4, 15)), (48, (4, 44)), (67, (4, 43)), (71, (4, 45)), (96, (4, 257)), (111, (4, 260)), (123, (4, 290)), (126, (4, 282)), (173, (4, 266)), (241, (4, 258)), (380, (4, 294)), (393, (4, 275)), (414, (4, 40)), (419, (4, 267))],
  [(13, (4, 295)), (47, (2, 12)), (50, (0, 247)), (54, (0, 270)), (61, (0, 276)), (150, (8, 0)), (304, (10, 0)), (339, (4, 283)), (343, (4, 284))],
  [(3, (6, 0)), (46, (0, 323)), (50, (0, 308)), (54, (10, 0)), (61, (0, 326)), (65, (0, 330)), (69, (0, 324)), (72, (4, 16)), (78, (0, 325)), (83, (0, 175)), (87, (8, 0)), (93, (0, 327)), (97, (0, 176)), (101, (0, 328))],
  [(1, (6, 0)), (47, (4, 291)), (54, (4, 282)), (106, (4, 264)), (212, (8, 0)), (335, (0, 35)), (489, (2, 278)), (492, (0, 38)), (495, (4, 39)), (498, (4, 42)), (552, (5, 279)), (1047, (5, 255)), (1051, (4, 289)), (1059, (4, 41)), (1062, (4, 259)), (1065, (4, 268))],
  [(9, (4, 40)), (236, (4, 294)), (240, (4, 265))],
  [],
  [(1, (6, 0))],
  [],
  [],
  [],
  [],
  [],
  [],
  [],
  [],
  [(12, (2, 12)), (15, (0, 247)), (19, (0, 270)), (22, (0, 276))],
  [(194, (11, 0)), (201, (4, 253))],
  [(12, (2, 12)), (15, (0, 247)), (19, (0, 270)), (22, (0, 276))],
  [(1, (6, 0)), (249, (0, 345)), (253, (0, 349)), (263, (0, 353)), (267, (0, 355)), (277, (0, 352)), (283, (0, 350)), (286, (0, 351)), (290, (0, 354)), (296, (0, 358)), (300, (0, 348)), (312, (0, 364)), (315, (0, 365)), (319, (4, 367)), (322, (0, 360)), (325, (0, 361)), (328, (0, 362)), (332, (0, 363)), (335, (0, 366)), (339, (4, 368)), (342, (0, 369)), (352, (0, 357)), (356, (0, 359)), (359, (0, 371)), (362, (0, 356)), (365, (0, 370)), (368, (0, 372)), (372, (0, 373)), (399, (0, 385)), (402, (0, 386)), (413, (4, 391)), (417, (0, 382)), (420, (0, 383)), (423, (0, 384)), (427, (0, 387)), (430, (0, 388)), (433, (0, 390)), (436, (0, 392)), (441, (0, 395)), (444, (0, 396)), (447, (0, 400)), (450, (0, 397)), (454, (0, 398)), (457, (0, 402)), (460, (0, 381)), (463, (0, 389)), (466, (0, 393)), (469, (0, 394)), (472, (0, 399)), (475, (0, 401)), (478, (0, 405)), (481, (0, 404)), (484, (0, 406)), (487, (0, 407)), (490, (0, 408)), (493, (0, 409)), (496, (4, 379)), (499, (0, 380)), (502, (0, 403)), (505, (0, 377)), (508, (0, 378)), (512, (0, 376)), (515, (0, 413)), (518, (4, 374)), (524, (4, 423)), (528, (0, 421)), (532, (0, 422)), (536, (0, 420)), (540, (0, 424)), (543, (0, 425)), (546, (0, 426)), (550, (0, 427)), (554, (0, 419)), (560, (0, 429)), (564, (0, 432)), (567, (0, 418)), (570, (0, 428)), (573, (0, 430)), (577, (0, 431)), (580, (0, 417)), (583, (0, 416)), (586, (0, 434)), (592, (0, 441)), (595, (0, 439)), (598, (0, 438)), (601, (0, 440)), (604, (0, 444)), (607, (0, 445)), (610, (0, 449)), (613, (0, 450)), (616, (0, 447)), (619, (0, 448)), (622, (0, 437)), (625, (0, 443)), (628, (0, 446)), (637, (0, 453)), (640, (0, 460)), (643, (0, 459)), (647, (0, 461)), (650, (0, 457)), (656, (0, 458)), (658, (0, 467)), (661, (0, 466)), (667, (0, 471)), (683, (4, 478)), (692, (0, 479)), (707, (0, 477)), (710, (0, 476)), (713, (0, 482)), (716, (0, 475)), (719, (0, 480)), (722, (0, 481)), (725, (0, 469)), (728, (0, 470)), (731, (0, 474)), (734, (0, 468)), (737, (0, 472)), (740, (0, 473)), (743, (0, 483)), (746, (0, 484)), (749, (0, 485)), (752, (0, 488)), (755, (0, 487)), (758, (0, 489)), (770, (0, 491)), (773, (0, 492))]]
def pt_XL : List (List (Nat × (Nat × Nat))) := [[],
  [(95, (0, 97)), (102, (1, 104)), (195, (4, 197)), (209, (2, 211)), (281, (3, 283))],
  [],
  [],
  [],
  [],
  [],
  [],
  [],
  [],
  [],
  [],
  [],
  [],
  [],
  [],
  [],
  [],
  [],
  [],
  [],
  [],
  [],
  [],
  [],
  [],
  [],
  [],
  [],
  [],
  [],
  [],
  []]
def pt_STL : List (List (Nat × Value)) := [[],
  [],
  [],
  [],
  [(227, .ref 1099511627780)],
  [],
  [],
  [],
  [],
  [(9, .ref 1099511627777)],
  [(25, .ref 1099511627778)],
  [],
  [],
  [(18, .int 1)],
  [(403, .ref 1099511627781), (407, .ref 1099511627782)],
  [],
  [(35, .ref 1099511627779)],
  [(38, .int 1), (1053, .ref 1099511627783)],
  [],
  [],
  [],
  [],
  [],
  [],
  [],
  [],
  [(83, .ref 1099511627781), (87, .ref 1099511627782)],
  [],
  [],
  [],
  [],
  [],
  []]
def pt_LSL : List (List (Nat × Nat)) := [[],
  [],
  [],
  [(40, 40), (50, 42), (62, 34), (64, 36), (66, 38), (79, 44), (85, 46), (87, 16), (89, 48), (91, 50), (93, 52), (95, 22), (97, 24), (99, 26), (101, 28), (109, 30), (111, 32)],
  [],
  [],
  [(105, 10), (111, 12), (113, 14), (115, 16), (117, 18)],
  [(78, 20)],
  [],
  [],
  [],
  [(89, 20)],
  [],
  [],
  [],
  [(48, 58), (57, 60), (59, 62)],
  [],
  [],
  [],
  [],
  [],
  [],
  [],
  [],
  [],
  [],
  [],
  [],
  [],
  [(13, 54)],
  [],
  [(13, 64)],
  []]
def pt_mL : List (List (Nat × ByteArray × Nat × Bool × Option FieldType × Nat × Nat)) := [[(0, code, 7, false, some .boolean, 999, 1), (1, prog_1_method_1_code, 1, true, none, 0, 0), (2, prog_11_method_1_code, 1, true, none, 1, 0), (3, prog_8_method_1_code, 2, true, none, 2, 1), (4, prog_9_method_1_code, 2, true, none, 3, 1), (5, prog_12_method_1_code, 1, true, none, 4, 0), (6, prog_4_method_1_code, 2, true, none, 5, 1), (7, prog_6_method_1_code, 2, true, none, 6, 1), (8, prog_7_method_1_code, 2, true, none, 7, 0), (9, prog_10_method_1_code, 1, true, none, 8, 0), (10, prog_2_method_1_code, 1, true, none, 9, 0), (11, prog_3_method_1_code, 1, true, none, 10, 0), (12, prog_26_method_1_code, 1, true, none, 13, 0), (13, prog_15_method_2_code, 2, true, none, 13, 1), (14, prog_29_method_2_code, 1, false, (some (.array .byte)), 999, 1), (14, prog_29_method_3_code, 1, false, (some .int), 999, 1)],
  [(15, prog_33_method_103_code, 4, false, none, 999, 2), (16, prog_5_method_1_code, 1, true, none, 11, 0), (1, prog_1_method_6_code, 1, false, none, 0, 0), (1, prog_1_method_38_code, 2, false, none, 0, 0), (1, prog_1_method_16_code, 2, false, (some .int), 0, 0), (6, prog_4_method_2_code, 5, false, (some .int), 5, 1), (6, prog_4_method_3_code, 3, false, none, 5, 0), (2, prog_11_method_11_code, 1, false, none, 1, 0), (2, prog_11_method_2_code, 1, false, (some .int), 1, 0), (6, prog_4_method_4_code, 2, false, (some .int), 5, 1), (2, prog_11_method_5_code, 2, false, (some .int), 1, 1), (2, prog_11_method_12_code, 4, false, (some .int), 1, 3), (2, prog_11_method_13_code, 6, false, (some .int), 1, 5), (2, prog_11_method_7_code, 2, false, (some .boolean), 1, 1), (6, prog_4_method_5_code, 3, false, (some .int), 5, 1), (2, prog_11_method_9_code, 3, false, (some .int), 1, 1)],
  [(2, prog_11_method_15_code, 2, false, (some .int), 1, 1), (2, prog_11_method_10_code, 4, false, (some .boolean), 1, 3), (17, prog_25_method_54_code, 1, false, (some .int), 14, 0), (17, prog_25_method_152_code, 1, false, (some .byte), 14, 0), (2, prog_11_method_8_code, 4, false, (some .boolean), 1, 2), (17, prog_25_method_56_code, 2, false, (some .char), 14, 1), (17, prog_25_method_154_code, 1, false, (some .boolean), 14, 0), (18, prog_28_method_2_code, 2, false, (some .char), 999, 2), (17, prog_25_method_155_code, 2, false, none, 14, 2), (19, prog_36_method_11_code, 3, false, (some .int), 999, 3), (14, prog_29_method_83_code, 2, false, (some .char), 999, 2), (14, prog_29_method_91_code, 2, false, none, 999, 2), (14, prog_29_method_6_code, 1, false, (some .int), 999, 1), (14, prog_29_method_5_code, 2, false, (some .char), 999, 2), (2, prog_11_method_14_code, 7, false, (some .int), 1, 2), (2, prog_11_method_16_code, 1, false, none, 1, 0)],
  [(6, prog_4_method_6_code, 2, false, (some .int), 5, 0), (2, prog_11_method_23_code, 2, false, none, 1, 1), (2, prog_11_method_17_code, 1, false, (some .int), 1, 0), (2, prog_11_method_22_code, 1, false, none, 1, 0), (2, prog_11_method_24_code, 1, false, none, 1, 0), (6, prog_4_method_9_code, 3, false, (some .long), 5, 0), (2, prog_11_method_21_code, 1, false, (some .long), 1, 0), (6, prog_4_method_8_code, 4, false, (some .int), 5, 1), (6, prog_4_method_10_code, 4, false, none, 5, 2), (6, prog_4_method_7_code, 2, false, (some .int), 5, 0), (11, prog_3_method_2_code, 4, false, none, 10, 2), (11, prog_3_method_6_code, 2, false, (some .int), 10, 1), (11, prog_3_method_12_code, 3, false, none, 10, 2), (2, prog_11_method_26_code, 1, false, (some .boolean), 1, 0), (6, prog_4_method_11_code, 1, false, (some .boolean), 5, 1), (6, prog_4_method_12_code, 10, false, none, 5, 3)],
  [(6, prog_4_method_13_code, 8, false, (some .int), 5, 2), (6, prog_4_method_14_code, 7, false, (some .int), 5, 2), (6, prog_4_method_15_code, 6, false, (some .int), 5, 2), (2, prog_11_method_18_code, 1, false, (some .int), 1, 0), (6, prog_4_method_16_code, 4, false, (some .boolean), 5, 3), (11, prog_3_method_5_code, 1, false, (some .int), 10, 0), (2, prog_11_method_25_code, 2, false, none, 1, 1), (11, prog_3_method_10_code, 4, false, (some .int), 10, 2), (11, prog_3_method_7_code, 2, false, (some .int), 10, 1), (6, prog_4_method_17_code, 5, false, (some .int), 5, 4), (6, prog_4_method_18_code, 7, false, (some .int), 5, 4), (11, prog_3_method_11_code, 3, false, none, 10, 2), (11, prog_3_method_13_code, 3, false, none, 10, 2), (2, prog_11_method_27_code, 1, false, (some .int), 1, 0), (1, prog_1_method_37_code, 3, false, none, 0, 1), (2, prog_11_method_4_code, 2, false, none, 1, 1)],
  [(16, prog_5_method_2_code, 1, false, none, 11, 0), (1, prog_1_method_17_code, 2, false, (some .int), 0, 0), (7, prog_6_method_2_code, 6, false, (some .int), 6, 1), (7, prog_6_method_4_code, 3, false, none, 6, 0), (7, prog_6_method_5_code, 4, false, (some .int), 6, 1), (2, prog_11_method_6_code, 2, false, (some .boolean), 1, 1), (7, prog_6_method_6_code, 4, false, (some .int), 6, 2), (2, prog_11_method_19_code, 1, false, (some .int), 1, 0), (7, prog_6_method_3_code, 9, false, none, 6, 4), (0, method_3_code, 4, false, (some .int), 999, 3), (1, prog_1_method_2_code, 5, false, (some .int), 0, 1), (20, prog_31_method_1_code, 1, true, none, 999, 0), (21, prog_19_method_1_code, 1, true, none, 999, 0), (22, prog_24_method_1_code, 1, true, none, 999, 0), (23, prog_18_method_1_code, 1, true, none, 999, 0), (24, prog_32_method_1_code, 1, true, none, 999, 0)],
  [(2, prog_11_method_3_code, 2, false, none, 1, 1), (0, method_4_code, 3, false, (some .int), 999, 2), (1, prog_1_method_3_code, 2, false, none, 0, 1), (0, method_5_code, 4, false, (some .int), 999, 3), (1, prog_1_method_4_code, 4, false, (some .int), 0, 1), (1, prog_1_method_29_code, 1, false, none, 0, 1), (25, prog_21_method_1_code, 1, true, none, 999, 0), (3, prog_8_method_2_code, 3, false, none, 2, 0), (3, prog_8_method_3_code, 2, false, (some .int), 2, 1), (3, prog_8_method_7_code, 2, false, (some .int), 2, 1), (3, prog_8_method_9_code, 4, false, (some .int), 2, 1), (3, prog_8_method_8_code, 5, false, (some .int), 2, 3), (3, prog_8_method_4_code, 2, false, (some .int), 2, 1), (3, prog_8_method_5_code, 5, false, (some .int), 2, 1), (3, prog_8_method_6_code, 3, false, (some .int), 2, 2), (4, prog_9_method_2_code, 3, false, (some .int), 3, 1)],
  [(8, prog_7_method_2_code, 2, false, none, 7, 0), (10, prog_2_method_2_code, 1, false, none, 9, 0), (4, prog_9_method_3_code, 2, false, none, 3, 1), (8, prog_7_method_3_code, 3, false, (some .int), 7, 1), (4, prog_9_method_10_code, 3, false, none, 3, 2), (5, prog_12_method_2_code, 1, false, none, 4, 0), (4, prog_9_method_11_code, 1, false, none, 3, 0), (4, prog_9_method_16_code, 2, false, none, 3, 1), (4, prog_9_method_4_code, 3, false, none, 3, 1), (8, prog_7_method_6_code, 3, false, none, 7, 2), (4, prog_9_method_6_code, 2, false, none, 3, 1), (4, prog_9_method_5_code, 4, false, none, 3, 1), (4, prog_9_method_20_code, 7, false, (some .long), 3, 0), (4, prog_9_method_21_code, 4, false, (some .long), 3, 0), (8, prog_7_method_7_code, 6, false, none, 7, 3), (4, prog_9_method_7_code, 2, false, none, 3, 1)],
  [(4, prog_9_method_8_code, 6, false, none, 3, 2), (8, prog_7_method_8_code, 2, false, none, 7, 1), (8, prog_7_method_4_code, 3, false, none, 7, 2), (4, prog_9_method_9_code, 1, false, none, 3, 0), (8, prog_7_method_9_code, 2, false, (some .boolean), 7, 1), (8, prog_7_method_10_code, 1, false, (some .long), 7, 0), (4, prog_9_method_12_code, 1, false, none, 3, 0), (5, prog_12_method_5_code, 6, false, none, 4, 1), (5, prog_12_method_4_code, 3, false, (some .boolean), 4, 1), (4, prog_9_method_13_code, 4, false, none, 3, 1), (2, prog_11_method_20_code, 1, false, (some .int), 1, 0), (5, prog_12_method_19_code, 2, false, none, 4, 1), (5, prog_12_method_8_code, 7, false, none, 4, 2), (5, prog_12_method_6_code, 3, false, (some .boolean), 4, 2), (5, prog_12_method_7_code, 6, false, none, 4, 3), (5, prog_12_method_20_code, 11, false, none, 4, 2)],
  [(5, prog_12_method_21_code, 6, false, none, 4, 3), (5, prog_12_method_22_code, 11, false, none, 4, 2), (4, prog_9_method_14_code, 3, false, none, 3, 1), (4, prog_9_method_15_code, 1, false, (some .int), 3, 1), (4, prog_9_method_17_code, 3, false, none, 3, 1), (5, prog_12_method_11_code, 3, false, none, 4, 0), (5, prog_12_method_10_code, 1, false, (some .int), 4, 0), (5, prog_12_method_9_code, 2, false, (some .boolean), 4, 1), (5, prog_12_method_13_code, 8, false, none, 4, 0), (5, prog_12_method_14_code, 7, false, (some .long), 4, 2), (5, prog_12_method_16_code, 7, false, none, 4, 3), (5, prog_12_method_15_code, 6, false, (some .long), 4, 1), (5, prog_12_method_12_code, 3, false, none, 4, 0), (5, prog_12_method_17_code, 14, false, none, 4, 0), (5, prog_12_method_18_code, 5, false, none, 4, 4), (4, prog_9_method_18_code, 2, false, none, 3, 1)],
  [(5, prog_12_method_3_code, 1, false, (some .int), 4, 0), (8, prog_7_method_11_code, 3, false, (some (.object "AssertionBench$Sequence")), 7, 1), (5, prog_12_method_23_code, 7, false, none, 4, 2), (5, prog_12_method_24_code, 7, false, (some .long), 4, 1), (9, prog_10_method_2_code, 8, false, none, 8, 5), (15, prog_33_method_101_code, 5, false, none, 999, 2), (9, prog_10_method_3_code, 7, false, none, 8, 3), (9, prog_10_method_4_code, 1, false, (some .int), 8, 0), (26, prog_22_method_49_code, 1, false, (some .int), 999, 1), (4, prog_9_method_19_code, 4, false, none, 3, 1), (8, prog_7_method_5_code, 2, false, (some .int), 7, 1), (8, prog_7_method_12_code, 2, false, none, 7, 0), (0, method_6_code, 4, false, (some .int), 999, 3), (1, prog_1_method_5_code, 5, false, (some .int), 0, 1), (1, prog_1_method_28_code, 1, false, (some .boolean), 0, 1), (8, prog_7_method_18_code, 4, false, none, 7, 2)],
  [(8, prog_7_method_19_code, 7, false, (some .boolean), 7, 4), (8, prog_7_method_20_code, 8, false, (some .boolean), 7, 5), (8, prog_7_method_21_code, 3, false, (some .boolean), 7, 2), (8, prog_7_method_23_code, 14, false, (some .boolean), 7, 5), (9, prog_10_method_6_code, 3, false, (some .boolean), 8, 1), (9, prog_10_method_5_code, 10, false, (some .long), 8, 2), (8, prog_7_method_24_code, 10, false, none, 7, 5), (8, prog_7_method_25_code, 8, false, (some .boolean), 7, 5), (8, prog_7_method_22_code, 3, false, (some .boolean), 7, 2), (8, prog_7_method_26_code, 9, false, (some .boolean), 7, 5), (0, method_7_code, 4, false, (some .int), 999, 3), (1, prog_1_method_7_code, 2, false, (some .int), 0, 1), (0, method_8_code, 6, false, (some .int), 999, 5), (1, prog_1_method_8_code, 5, false, (some .boolean), 0, 3), (1, prog_1_method_30_code, 4, false, none, 0, 3), (1, prog_1_method_31_code, 2, false, none, 0, 1)],
  [(8, prog_7_method_14_code, 1, false, (some .int), 7, 0), (27, prog_20_method_1_code, 1, true, none, 999, 0), (8, prog_7_method_15_code, 2, false, (some (.object "AssertionBench$Sequence")), 7, 1), (1, prog_1_method_36_code, 7, false, (some .long), 0, 3), (0, method_9_code, 6, false, (some .int), 999, 5), (1, prog_1_method_9_code, 5, false, (some .boolean), 0, 3), (9, prog_10_method_7_code, 3, false, (some .boolean), 8, 1), (0, method_10_code, 4, false, (some .int), 999, 3), (1, prog_1_method_10_code, 2, false, (some .int), 0, 1), (1, prog_1_method_32_code, 2, false, none, 0, 1), (9, prog_10_method_8_code, 1, false, (some .int), 8, 0), (8, prog_7_method_17_code, 2, false, (some (.object "AssertionBench$Classes")), 7, 1), (10, prog_2_method_3_code, 1, false, (some .boolean), 9, 0), (10, prog_2_method_11_code, 4, false, none, 9, 1), (9, prog_10_method_9_code, 1, false, (some .int), 8, 0), (10, prog_2_method_12_code, 5, false, none, 9, 1)],
  [(10, prog_2_method_13_code, 4, false, (some .int), 9, 1), (10, prog_2_method_14_code, 3, false, none, 9, 0), (10, prog_2_method_15_code, 4, false, (some .boolean), 9, 0), (10, prog_2_method_16_code, 6, false, (some .boolean), 9, 2), (10, prog_2_method_17_code, 2, false, none, 9, 0), (10, prog_2_method_18_code, 5, false, none, 9, 2), (10, prog_2_method_4_code, 1, false, (some .int), 9, 0), (0, method_11_code, 6, false, (some .int), 999, 5), (1, prog_1_method_11_code, 4, false, (some .int), 0, 3), (10, prog_2_method_7_code, 6, false, (some .int), 9, 3), (10, prog_2_method_6_code, 3, false, (some .int), 9, 2), (0, method_12_code, 6, false, (some .int), 999, 5), (1, prog_1_method_12_code, 5, false, (some .int), 0, 3), (0, method_13_code, 5, false, (some .int), 999, 4), (1, prog_1_method_13_code, 4, false, (some .int), 0, 2), (10, prog_2_method_5_code, 2, false, (some .int), 9, 1)],
  [(0, method_14_code, 4, false, (some .int), 999, 3), (1, prog_1_method_14_code, 2, false, (some .int), 0, 1), (1, prog_1_method_33_code, 2, false, none, 0, 1), (8, prog_7_method_16_code, 3, false, (some .boolean), 7, 0), (8, prog_7_method_27_code, 3, false, (some .int), 7, 0), (8, prog_7_method_28_code, 2, false, (some .int), 7, 1), (10, prog_2_method_9_code, 5, false, (some .int), 9, 2), (0, method_15_code, 5, false, (some .int), 999, 4), (1, prog_1_method_15_code, 4, false, (some .boolean), 0, 2), (28, prog_34_method_1_code, 1, true, none, 999, 0), (8, prog_7_method_29_code, 8, false, (some .boolean), 7, 4), (8, prog_7_method_30_code, 8, false, (some .boolean), 7, 5), (8, prog_7_method_31_code, 10, false, (some .boolean), 7, 5), (10, prog_2_method_10_code, 6, false, (some .int), 9, 3), (10, prog_2_method_8_code, 6, false, (some .boolean), 9, 3), (8, prog_7_method_32_code, 10, false, (some .boolean), 7, 5)],
  [(0, method_16_code, 4, false, (some .int), 999, 3), (1, prog_1_method_18_code, 2, false, (some .int), 0, 1), (11, prog_3_method_17_code, 2, false, (some .int), 10, 1), (11, prog_3_method_18_code, 2, false, none, 10, 0), (12, prog_26_method_89_code, 2, false, none, 13, 1), (13, prog_15_method_13_code, 2, false, none, 13, 1), (29, prog_27_method_3_code, 2, true, none, 999, 1), (12, prog_26_method_7_code, 2, false, (some (.object "java/lang/StringBuilder")), 13, 1), (13, prog_15_method_22_code, 3, false, (some (.object "java/lang/AbstractStringBuilder")), 13, 1), (13, prog_15_method_26_code, 3, false, (some (.object "java/lang/AbstractStringBuilder")), 13, 0), (13, prog_15_method_9_code, 3, false, none, 13, 1), (13, prog_15_method_10_code, 6, false, (some .int), 13, 1), (30, prog_35_method_27_code, 4, false, (some .int), 999, 3), (30, prog_35_method_28_code, 3, false, (some .int), 999, 2), (15, prog_33_method_121_code, 3, false, (some (.array .byte)), 999, 2), (13, prog_15_method_68_code, 1, false, (some .boolean), 13, 0)],
  [(14, prog_29_method_81_code, 7, false, (some .int), 999, 6), (14, prog_29_method_93_code, 3, false, none, 999, 3), (17, prog_25_method_158_code, 3, false, none, 14, 3), (19, prog_36_method_12_code, 4, false, (some .int), 999, 4), (14, prog_29_method_4_code, 3, false, none, 999, 3), (13, prog_15_method_73_code, 3, false, none, 13, 2), (13, prog_15_method_71_code, 2, false, none, 13, 1), (13, prog_15_method_11_code, 2, false, none, 13, 0), (18, prog_28_method_50_code, 5, false, none, 999, 5), (14, prog_29_method_86_code, 6, false, none, 999, 5), (14, prog_29_method_94_code, 3, false, none, 999, 3), (17, prog_25_method_157_code, 3, false, (some .int), 14, 3), (19, prog_36_method_13_code, 4, false, (some .int), 999, 4), (17, prog_25_method_147_code, 4, false, none, 14, 3), (12, prog_26_method_15_code, 2, false, (some (.object "java/lang/StringBuilder")), 13, 1), (13, prog_15_method_32_code, 4, false, (some (.object "java/lang/AbstractStringBuilder")), 13, 1)],
  [(26, prog_22_method_13_code, 4, false, (some .int), 999, 1), (26, prog_22_method_12_code, 7, false, (some .int), 999, 3), (14, prog_29_method_77_code, 5, false, (some .int), 999, 4), (14, prog_29_method_89_code, 7, false, (some .int), 999, 3), (12, prog_26_method_42_code, 1, false, (some (.object "java/lang/String")), 13, 0), (17, prog_25_method_53_code, 2, true, none, 14, 1), (17, prog_25_method_150_code, 5, true, none, 14, 2), (13, prog_15_method_64_code, 1, false, (some (.array .byte)), 13, 0), (12, prog_26_method_93_code, 1, false, (some .int), 13, 0), (13, prog_15_method_6_code, 1, false, (some .int), 13, 0), (15, prog_33_method_132_code, 3, false, (some (.array .byte)), 999, 3), (15, prog_33_method_133_code, 5, false, (some (.array .byte)), 999, 3), (15, prog_33_method_131_code, 2, false, none, 999, 2), (21, prog_19_method_2_code, 2, true, none, 999, 1), (22, prog_24_method_2_code, 2, true, none, 999, 1), (23, prog_18_method_2_code, 2, true, none, 999, 1)],
  [(20, prog_31_method_2_code, 2, true, none, 999, 1), (14, prog_29_method_17_code, 6, false, (some (.array .byte)), 999, 3), (14, prog_29_method_22_code, 7, false, (some .int), 999, 5), (14, prog_29_method_15_code, 2, false, (some .byte), 999, 2), (25, prog_21_method_2_code, 2, true, none, 999, 1), (18, prog_28_method_48_code, 3, false, none, 999, 3), (15, prog_33_method_110_code, 5, false, none, 999, 4), (15, prog_33_method_30_code, 3, false, none, 999, 3), (31, prog_16_method_3_code, 2, true, none, 999, 1), (14, prog_29_method_70_code, 3, false, none, 999, 3), (11, prog_3_method_19_code, 2, false, none, 10, 1), (12, prog_26_method_14_code, 2, false, (some (.object "java/lang/StringBuilder")), 13, 1), (13, prog_15_method_31_code, 2, false, (some (.object "java/lang/AbstractStringBuilder")), 13, 1), (18, prog_28_method_3_code, 1, false, (some .boolean), 999, 1), (14, prog_29_method_71_code, 3, false, none, 999, 3), (12, prog_26_method_88_code, 2, false, (some .char), 13, 1)],
  [(13, prog_15_method_14_code, 5, false, (some .char), 13, 1), (0, method_17_code, 4, false, (some .int), 999, 3), (1, prog_1_method_19_code, 2, false, (some .int), 0, 1), (11, prog_3_method_8_code, 2, false, (some .int), 10, 1), (11, prog_3_method_3_code, 1, false, (some .int), 10, 0), (11, prog_3_method_4_code, 1, false, (some .int), 10, 0), (0, method_18_code, 4, false, (some .int), 999, 3), (1, prog_1_method_20_code, 3, false, none, 0, 2), (0, method_19_code, 5, false, (some .int), 999, 4), (1, prog_1_method_21_code, 3, false, (some .int), 0, 2), (11, prog_3_method_9_code, 2, false, (some .boolean), 10, 1), (0, method_20_code, 5, false, (some .int), 999, 4), (1, prog_1_method_22_code, 4, false, none, 0, 3), (0, method_21_code, 4, false, (some .int), 999, 3), (1, prog_1_method_23_code, 3, false, none, 0, 2), (0, method_22_code, 5, false, (some .int), 999, 4)],
  [(1, prog_1_method_24_code, 3, false, (some .int), 0, 2), (1, prog_1_method_34_code, 4, false, none, 0, 3), (16, prog_5_method_7_code, 10, false, (some .int), 11, 4), (16, prog_5_method_8_code, 6, false, none, 11, 4), (11, prog_3_method_14_code, 3, false, (some .int), 10, 0), (8, prog_7_method_13_code, 1, false, (some .int), 7, 0), (16, prog_5_method_9_code, 10, false, (some .int), 11, 4), (16, prog_5_method_10_code, 5, false, (some .int), 11, 3), (11, prog_3_method_15_code, 5, false, (some .int), 10, 2), (11, prog_3_method_16_code, 2, false, (some .int), 10, 1), (16, prog_5_method_11_code, 3, false, none, 11, 1), (0, method_23_code, 5, false, (some .int), 999, 4), (1, prog_1_method_25_code, 3, false, (some .int), 0, 2), (1, prog_1_method_35_code, 2, false, none, 0, 2), (16, prog_5_method_3_code, 1, false, (some .int), 11, 0), (16, prog_5_method_4_code, 2, false, (some .int), 11, 1)],
  [(16, prog_5_method_5_code, 2, false, (some .int), 11, 1), (16, prog_5_method_6_code, 2, false, (some .int), 11, 1), (0, method_24_code, 5, false, (some .int), 999, 4), (1, prog_1_method_26_code, 4, false, (some .int), 0, 2), (0, method_25_code, 4, false, (some .int), 999, 3), (1, prog_1_method_27_code, 2, false, (some .int), 0, 1), (32, prog_14_method_1_code, 2, true, none, 12, 0), (32, prog_14_method_2_code, 1, false, (some .int), 12, 0), (32, prog_14_method_4_code, 6, false, (some .int), 12, 1), (32, prog_14_method_3_code, 3, false, (some .boolean), 12, 2), (32, prog_14_method_5_code, 2, false, none, 12, 1), (32, prog_14_method_30_code, 4, false, (some .int), 12, 1), (32, prog_14_method_13_code, 3, false, none, 12, 0), (32, prog_14_method_6_code, 2, false, (some .int), 12, 1), (32, prog_14_method_12_code, 2, false, (some .int), 12, 1), (32, prog_14_method_11_code, 5, false, (some .int), 12, 0)],
  [(32, prog_14_method_7_code, 2, false, (some .boolean), 12, 1), (32, prog_14_method_8_code, 2, false, (some .boolean), 12, 1), (32, prog_14_method_10_code, 1, false, (some .int), 12, 0), (32, prog_14_method_9_code, 9, false, (some .boolean), 12, 6), (32, prog_14_method_27_code, 3, false, (some .int), 12, 0), (32, prog_14_method_26_code, 4, false, none, 12, 3), (32, prog_14_method_14_code, 2, false, none, 12, 1), (32, prog_14_method_25_code, 6, false, (some .int), 12, 0), (32, prog_14_method_16_code, 1, false, none, 12, 0), (32, prog_14_method_15_code, 2, false, none, 12, 1), (32, prog_14_method_18_code, 1, false, (some .boolean), 12, 0), (32, prog_14_method_20_code, 4, false, (some .int), 12, 0), (32, prog_14_method_19_code, 4, false, (some .int), 12, 1), (32, prog_14_method_17_code, 6, false, (some .int), 12, 5), (32, prog_14_method_23_code, 6, false, (some .int), 12, 2), (32, prog_14_method_21_code, 1, false, (some .int), 12, 1)],
  [(32, prog_14_method_24_code, 1, false, (some .int), 12, 1), (32, prog_14_method_22_code, 5, false, (some .int), 12, 3), (32, prog_14_method_29_code, 6, false, (some .int), 12, 1), (32, prog_14_method_28_code, 2, false, (some .int), 12, 0), (32, prog_14_method_31_code, 5, false, none, 12, 2), (32, prog_14_method_73_code, 4, false, (some .boolean), 12, 0), (32, prog_14_method_72_code, 1, false, (some .boolean), 12, 1), (32, prog_14_method_66_code, 3, false, (some .int), 12, 1), (32, prog_14_method_65_code, 2, false, (some .boolean), 12, 1), (32, prog_14_method_32_code, 4, false, none, 12, 1), (32, prog_14_method_64_code, 4, false, none, 12, 1), (32, prog_14_method_56_code, 1, false, (some .boolean), 12, 1), (32, prog_14_method_55_code, 2, false, none, 12, 1), (32, prog_14_method_45_code, 3, false, none, 12, 1), (32, prog_14_method_41_code, 1, false, (some .int), 12, 0), (32, prog_14_method_36_code, 1, false, none, 12, 0)],
  [(32, prog_14_method_35_code, 4, false, (some .boolean), 12, 3), (32, prog_14_method_34_code, 2, false, (some .boolean), 12, 1), (32, prog_14_method_33_code, 7, false, (some .boolean), 12, 2), (32, prog_14_method_37_code, 2, false, none, 12, 1), (32, prog_14_method_40_code, 3, false, none, 12, 2), (32, prog_14_method_46_code, 10, false, none, 12, 1), (32, prog_14_method_39_code, 4, false, (some .boolean), 12, 3), (32, prog_14_method_38_code, 5, false, (some .boolean), 12, 3), (32, prog_14_method_42_code, 3, false, none, 12, 2), (32, prog_14_method_47_code, 10, false, none, 12, 1), (32, prog_14_method_48_code, 4, false, none, 12, 1), (32, prog_14_method_43_code, 2, false, none, 12, 1), (32, prog_14_method_44_code, 2, false, none, 12, 1), (32, prog_14_method_51_code, 4, false, none, 12, 2), (32, prog_14_method_50_code, 4, false, none, 12, 1), (32, prog_14_method_52_code, 5, false, none, 12, 1)],
  [(32, prog_14_method_49_code, 2, false, none, 12, 0), (32, prog_14_method_54_code, 4, false, none, 12, 1), (32, prog_14_method_53_code, 3, false, none, 12, 1), (32, prog_14_method_63_code, 5, false, (some .boolean), 12, 2), (32, prog_14_method_59_code, 7, false, (some .boolean), 12, 2), (32, prog_14_method_57_code, 3, false, (some .boolean), 12, 2), (32, prog_14_method_58_code, 3, false, (some .boolean), 12, 2), (32, prog_14_method_60_code, 6, false, (some .boolean), 12, 2), (32, prog_14_method_61_code, 6, false, (some .boolean), 12, 2), (32, prog_14_method_62_code, 7, false, (some .boolean), 12, 2), (32, prog_14_method_67_code, 1, false, none, 12, 0), (32, prog_14_method_68_code, 2, false, (some .int), 12, 1), (32, prog_14_method_70_code, 4, false, (some .boolean), 12, 3), (32, prog_14_method_69_code, 5, false, (some .boolean), 12, 3), (32, prog_14_method_71_code, 6, false, (some .boolean), 12, 3), (32, prog_14_method_92_code, 2, false, (some .int), 12, 1)],
  [(32, prog_14_method_91_code, 3, false, (some .boolean), 12, 2), (32, prog_14_method_90_code, 9, false, none, 12, 2), (32, prog_14_method_84_code, 4, false, none, 12, 1), (32, prog_14_method_83_code, 9, false, none, 12, 1), (32, prog_14_method_75_code, 8, false, (some .long), 12, 1), (32, prog_14_method_77_code, 3, false, (some .int), 12, 1), (32, prog_14_method_78_code, 6, false, none, 12, 2), (32, prog_14_method_76_code, 3, false, (some .boolean), 12, 2), (32, prog_14_method_79_code, 13, false, none, 12, 3), (32, prog_14_method_80_code, 11, false, none, 12, 3), (32, prog_14_method_81_code, 15, false, none, 12, 4), (32, prog_14_method_82_code, 14, false, none, 12, 4), (32, prog_14_method_87_code, 9, false, none, 12, 1), (32, prog_14_method_85_code, 5, false, (some .int), 12, 2), (32, prog_14_method_86_code, 9, false, (some .boolean), 12, 2), (32, prog_14_method_89_code, 4, false, (some .int), 12, 0)],
  [(32, prog_14_method_88_code, 5, false, (some .boolean), 12, 2), (32, prog_14_method_94_code, 4, false, (some .int), 12, 3), (32, prog_14_method_93_code, 6, false, (some .int), 12, 3), (32, prog_14_method_95_code, 4, false, (some .int), 12, 3), (32, prog_14_method_96_code, 3, false, (some .int), 12, 2), (32, prog_14_method_101_code, 4, false, (some .int), 12, 1), (32, prog_14_method_100_code, 2, false, (some .boolean), 12, 1), (32, prog_14_method_97_code, 6, false, none, 12, 1), (32, prog_14_method_99_code, 3, false, (some .int), 12, 1), (32, prog_14_method_98_code, 7, false, (some .int), 12, 3), (32, prog_14_method_110_code, 6, false, (some .boolean), 12, 2), (32, prog_14_method_104_code, 3, false, none, 12, 0), (32, prog_14_method_102_code, 3, false, none, 12, 2), (32, prog_14_method_103_code, 5, false, none, 12, 2), (32, prog_14_method_109_code, 6, false, (some .boolean), 12, 2), (32, prog_14_method_108_code, 6, false, (some .boolean), 12, 2)],
  [(32, prog_14_method_107_code, 11, false, (some .boolean), 12, 3), (32, prog_14_method_105_code, 7, false, (some .int), 12, 3), (32, prog_14_method_106_code, 5, false, (some .boolean), 12, 2), (32, prog_14_method_111_code, 4, false, none, 12, 2), (32, prog_14_method_113_code, 3, false, (some .int), 12, 2), (32, prog_14_method_112_code, 2, false, (some .boolean), 12, 1), (32, prog_14_method_114_code, 4, false, none, 12, 3), (32, prog_14_method_115_code, 3, false, none, 12, 2), (32, prog_14_method_120_code, 5, false, (some .int), 12, 2), (32, prog_14_method_74_code, 4, false, (some .int), 12, 2), (32, prog_14_method_119_code, 6, false, (some .boolean), 12, 3), (32, prog_14_method_117_code, 5, false, (some .int), 12, 2), (32, prog_14_method_116_code, 2, false, (some .boolean), 12, 1), (32, prog_14_method_118_code, 3, false, (some .int), 12, 0), (32, prog_14_method_121_code, 3, false, (some .int), 12, 2), (32, prog_14_method_122_code, 6, false, (some .int), 12, 2)],
  [(32, prog_14_method_123_code, 2, false, (some .int), 12, 1), (32, prog_14_method_143_code, 2, false, (some .int), 12, 0), (32, prog_14_method_125_code, 1, false, none, 12, 0), (32, prog_14_method_124_code, 1, false, (some .int), 12, 0), (32, prog_14_method_138_code, 1, false, none, 12, 0), (32, prog_14_method_126_code, 2, false, none, 12, 1), (32, prog_14_method_128_code, 1, false, none, 12, 0), (32, prog_14_method_127_code, 4, false, (some .int), 12, 0), (32, prog_14_method_139_code, 2, false, none, 12, 0), (32, prog_14_method_140_code, 2, false, none, 12, 0), (32, prog_14_method_137_code, 4, false, (some .int), 12, 0), (32, prog_14_method_135_code, 2, false, none, 12, 0), (32, prog_14_method_133_code, 1, false, none, 12, 0), (32, prog_14_method_131_code, 3, false, none, 12, 1), (32, prog_14_method_130_code, 1, false, (some .int), 12, 1), (32, prog_14_method_129_code, 4, false, (some .int), 12, 3)],
  [(32, prog_14_method_132_code, 3, false, none, 12, 0), (32, prog_14_method_136_code, 1, false, (some .boolean), 12, 0), (32, prog_14_method_134_code, 2, false, none, 12, 0), (32, prog_14_method_141_code, 3, false, none, 12, 0), (32, prog_14_method_142_code, 3, false, none, 12, 0), (32, prog_14_method_148_code, 2, false, none, 12, 0), (32, prog_14_method_147_code, 3, false, (some .int), 12, 0), (32, prog_14_method_145_code, 1, false, none, 12, 0), (32, prog_14_method_144_code, 4, false, (some .int), 12, 2), (32, prog_14_method_146_code, 4, false, none, 12, 1), (32, prog_14_method_151_code, 3, false, (some .int), 12, 1), (32, prog_14_method_149_code, 2, false, none, 12, 1), (32, prog_14_method_150_code, 2, false, none, 12, 1), (32, prog_14_method_152_code, 2, false, (some .int), 12, 1)]]
def pt_mt (j : Nat) : Option (Nat × ByteArray × Nat × Bool × Option FieldType × Nat × Nat) := match pt_mL[j / 16]? with | some t => t[j % 16]? | none => none
def pt_myL : List MethodName := [⟨"AssertionBenchLaw", "law", "([I)Z"⟩,
  ⟨"AssertionBench", "<init>", "()V"⟩,
  ⟨"AssertionBench$Tokens", "<init>", "()V"⟩,
  ⟨"AssertionBench$PropertyLexer", "<init>", "(LAssertionBench$Tokens;)V"⟩,
  ⟨"AssertionBench$PropertyReader", "<init>", "(LAssertionBench$Tokens;)V"⟩,
  ⟨"AssertionBench$Weaver", "<init>", "()V"⟩,
  ⟨"AssertionBench$DesignReader", "<init>", "(LAssertionBench$Tokens;)V"⟩,
  ⟨"AssertionBench$NumbersReader", "<init>", "(LAssertionBench$Tokens;)V"⟩,
  ⟨"AssertionBench$Property", "<init>", "()V"⟩,
  ⟨"AssertionBench$Sequence", "<init>", "()V"⟩,
  ⟨"AssertionBench$Classes", "<init>", "()V"⟩,
  ⟨"AssertionBench$Design", "<init>", "()V"⟩,
  ⟨"java/lang/StringBuilder", "<init>", "()V"⟩,
  ⟨"java/lang/AbstractStringBuilder", "<init>", "(I)V"⟩,
  ⟨"java/lang/StringUTF16", "newBytesFor", "(I)[B"⟩,
  ⟨"java/lang/StringUTF16", "newBytesLength", "(I)I"⟩,
  ⟨"java/util/Arrays", "fill", "([II)V"⟩,
  ⟨"AssertionBench$Hunt", "<init>", "()V"⟩,
  ⟨"AssertionBench", "clear", "()V"⟩,
  ⟨"AssertionBench", "empty", "()V"⟩,
  ⟨"AssertionBench", "readDesign", "()I"⟩,
  ⟨"AssertionBench$DesignReader", "readInto", "(LAssertionBench$Design;)I"⟩,
  ⟨"AssertionBench$DesignReader", "scan", "()V"⟩,
  ⟨"AssertionBench$Tokens", "restart", "()V"⟩,
  ⟨"AssertionBench$Tokens", "signCount", "()I"⟩,
  ⟨"AssertionBench$DesignReader", "scanOne", "(I)I"⟩,
  ⟨"AssertionBench$Tokens", "signAt", "(I)I"⟩,
  ⟨"AssertionBench$Tokens", "add", "(III)I"⟩,
  ⟨"AssertionBench$Tokens", "addCounted", "(IIIII)I"⟩,
  ⟨"AssertionBench$Tokens", "isSmallAt", "(I)Z"⟩,
  ⟨"AssertionBench$DesignReader", "scanWord", "(I)I"⟩,
  ⟨"AssertionBench$Tokens", "wordLength", "(I)I"⟩,
  ⟨"AssertionBench$Tokens", "addBad", "(I)I"⟩,
  ⟨"AssertionBench$Tokens", "isWord", "(IILjava/lang/String;)Z"⟩,
  ⟨"java/lang/String", "length", "()I"⟩,
  ⟨"java/lang/String", "coder", "()B"⟩,
  ⟨"AssertionBench$Tokens", "reads", "(ILjava/lang/String;)Z"⟩,
  ⟨"java/lang/String", "charAt", "(I)C"⟩,
  ⟨"java/lang/String", "isLatin1", "()Z"⟩,
  ⟨"java/lang/StringLatin1", "charAt", "([BI)C"⟩,
  ⟨"java/lang/String", "checkIndex", "(II)V"⟩,
  ⟨"jdk/internal/util/Preconditions", "checkIndex", "(IILjava/util/function/BiFunction;)I"⟩,
  ⟨"java/lang/StringUTF16", "charAt", "([BI)C"⟩,
  ⟨"java/lang/StringUTF16", "checkIndex", "(I[B)V"⟩,
  ⟨"java/lang/StringUTF16", "length", "([B)I"⟩,
  ⟨"java/lang/StringUTF16", "getChar", "([BI)C"⟩,
  ⟨"AssertionBench$Tokens", "addName", "(II)I"⟩,
  ⟨"AssertionBench$Tokens", "finish", "()V"⟩,
  ⟨"AssertionBench$DesignReader", "readInputs", "()I"⟩,
  ⟨"AssertionBench$Tokens", "take", "(I)V"⟩,
  ⟨"AssertionBench$Tokens", "now", "()I"⟩,
  ⟨"AssertionBench$Tokens", "advance", "()V"⟩,
  ⟨"AssertionBench$Tokens", "refuse", "()V"⟩,
  ⟨"AssertionBench$DesignReader", "readNewName", "()J"⟩,
  ⟨"AssertionBench$Tokens", "name", "()J"⟩,
  ⟨"AssertionBench$DesignReader", "indexOf", "(J)I"⟩,
  ⟨"AssertionBench$DesignReader", "addName", "(JI)V"⟩,
  ⟨"AssertionBench$DesignReader", "readLatches", "()I"⟩,
  ⟨"AssertionBench$Design", "reset", "(II)V"⟩,
  ⟨"AssertionBench$Design", "latchLiteral", "(I)I"⟩,
  ⟨"AssertionBench$Design", "setFirst", "(IZ)V"⟩,
  ⟨"AssertionBench$Tokens", "isFaulty", "()Z"⟩,
  ⟨"AssertionBench$DesignReader", "isStatement", "(I)Z"⟩,
  ⟨"AssertionBench$DesignReader", "readStatement", "(LAssertionBench$Design;II)V"⟩,
  ⟨"AssertionBench$DesignReader", "expression", "(LAssertionBench$Design;I)I"⟩,
  ⟨"AssertionBench$DesignReader", "part", "(LAssertionBench$Design;I)I"⟩,
  ⟨"AssertionBench$DesignReader", "factor", "(LAssertionBench$Design;I)I"⟩,
  ⟨"AssertionBench$Tokens", "place", "()I"⟩,
  ⟨"AssertionBench$DesignReader", "hasRoom", "(LAssertionBench$Design;II)Z"⟩,
  ⟨"AssertionBench$Design", "gates", "()I"⟩,
  ⟨"AssertionBench$Tokens", "refuseAt", "(I)V"⟩,
  ⟨"AssertionBench$Design", "addGate", "(II)I"⟩,
  ⟨"AssertionBench$Design", "gateLiteral", "(I)I"⟩,
  ⟨"AssertionBench$DesignReader", "orGate", "(LAssertionBench$Design;III)I"⟩,
  ⟨"AssertionBench$DesignReader", "xorGates", "(LAssertionBench$Design;III)I"⟩,
  ⟨"AssertionBench$Design", "setNext", "(II)V"⟩,
  ⟨"AssertionBench$Design", "setSignal", "(II)V"⟩,
  ⟨"AssertionBench$Tokens", "fault", "()I"⟩,
  ⟨"AssertionBench", "takeSpareCircuit", "(I)V"⟩,
  ⟨"AssertionBench$Tokens", "cut", "(I)V"⟩,
  ⟨"AssertionBench$Hunt", "forget", "()V"⟩,
  ⟨"AssertionBench", "readNumbers", "()I"⟩,
  ⟨"AssertionBench$NumbersReader", "readInto", "(LAssertionBench$Design;)I"⟩,
  ⟨"AssertionBench$NumbersReader", "scan", "()V"⟩,
  ⟨"AssertionBench$NumbersReader", "scanNumber", "(I)I"⟩,
  ⟨"AssertionBench$Tokens", "isDigitAt", "(I)Z"⟩,
  ⟨"AssertionBench$NumbersReader", "readNumber", "(II)I"⟩,
  ⟨"AssertionBench$Tokens", "low", "()I"⟩,
  ⟨"AssertionBench$NumbersReader", "readLiterals", "(LAssertionBench$Design;III)V"⟩,
  ⟨"AssertionBenchLaw", "put", "(LAssertionBench;I[J)I"⟩,
  ⟨"AssertionBench", "put", "(I)I"⟩,
  ⟨"java/lang/Throwable", "<init>", "()V"⟩,
  ⟨"java/lang/IllegalArgumentException", "<init>", "()V"⟩,
  ⟨"java/lang/RuntimeException", "<init>", "()V"⟩,
  ⟨"java/lang/Exception", "<init>", "()V"⟩,
  ⟨"java/lang/UnsupportedOperationException", "<init>", "()V"⟩,
  ⟨"AssertionBench$Tokens", "addSign", "(I)V"⟩,
  ⟨"AssertionBenchLaw", "end", "(LAssertionBench;I)I"⟩,
  ⟨"AssertionBench", "end", "(I)V"⟩,
  ⟨"AssertionBenchLaw", "read", "(LAssertionBench;I[J)I"⟩,
  ⟨"AssertionBench", "read", "(I)I"⟩,
  ⟨"AssertionBench", "checkProperty", "(I)V"⟩,
  ⟨"java/lang/IndexOutOfBoundsException", "<init>", "()V"⟩,
  ⟨"AssertionBench$PropertyLexer", "scan", "()V"⟩,
  ⟨"AssertionBench$PropertyLexer", "scanOne", "(I)I"⟩,
  ⟨"AssertionBench$PropertyLexer", "scanBracket", "(I)I"⟩,
  ⟨"AssertionBench$PropertyLexer", "scanRange", "(I)I"⟩,
  ⟨"AssertionBench$PropertyLexer", "scanCount", "(III)I"⟩,
  ⟨"AssertionBench$PropertyLexer", "scanBar", "(I)I"⟩,
  ⟨"AssertionBench$PropertyLexer", "scanWord", "(I)I"⟩,
  ⟨"AssertionBench$PropertyLexer", "wordKind", "(II)I"⟩,
  ⟨"AssertionBench$PropertyReader", "readInto", "(LAssertionBench$Property;)I"⟩,
  ⟨"AssertionBench$Property", "reset", "()V"⟩,
  ⟨"AssertionBench$Classes", "forget", "()V"⟩,
  ⟨"AssertionBench$PropertyReader", "wantProperty", "(LAssertionBench$Property;)V"⟩,
  ⟨"AssertionBench$Property", "add", "(I)I"⟩,
  ⟨"AssertionBench$PropertyReader", "openSequence", "(LAssertionBench$Property;I)V"⟩,
  ⟨"AssertionBench$Weaver", "restart", "()V"⟩,
  ⟨"AssertionBench$PropertyReader", "openBrace", "()V"⟩,
  ⟨"AssertionBench$PropertyReader", "pushJoint", "(I)V"⟩,
  ⟨"AssertionBench$PropertyReader", "wantNext", "(LAssertionBench$Property;)V"⟩,
  ⟨"AssertionBench$Property", "setCount", "(II)V"⟩,
  ⟨"AssertionBench$PropertyReader", "openParen", "(LAssertionBench$Property;)V"⟩,
  ⟨"AssertionBench$PropertyReader", "wantCondition", "(LAssertionBench$Property;)V"⟩,
  ⟨"AssertionBench$PropertyReader", "condition", "()J"⟩,
  ⟨"AssertionBench$PropertyReader", "holding", "()J"⟩,
  ⟨"AssertionBench$Property", "setConditions", "(IJJ)V"⟩,
  ⟨"AssertionBench$PropertyReader", "propertyEnded", "(LAssertionBench$Property;)V"⟩,
  ⟨"AssertionBench$PropertyReader", "joinProperties", "(LAssertionBench$Property;I)V"⟩,
  ⟨"AssertionBench$Property", "setRight", "(I)V"⟩,
  ⟨"AssertionBench$Property", "setKind", "(II)V"⟩,
  ⟨"AssertionBench$PropertyReader", "closeParen", "()V"⟩,
  ⟨"AssertionBench$Property", "endsWithCondition", "(I)Z"⟩,
  ⟨"AssertionBench$Property", "dropCondition", "()J"⟩,
  ⟨"AssertionBench$PropertyReader", "wantItem", "()V"⟩,
  ⟨"AssertionBench$Weaver", "addCondition", "(J)V"⟩,
  ⟨"AssertionBench$Weaver", "takeRoom", "(I)Z"⟩,
  ⟨"AssertionBench$PropertyReader", "repeat", "(Z)V"⟩,
  ⟨"AssertionBench$Tokens", "high", "()I"⟩,
  ⟨"AssertionBench$Weaver", "star", "(Z)V"⟩,
  ⟨"AssertionBench$Weaver", "addSteps", "(JJ)V"⟩,
  ⟨"AssertionBench$Weaver", "isIn", "(JI)Z"⟩,
  ⟨"AssertionBench$Weaver", "addStep", "(IIJ)V"⟩,
  ⟨"AssertionBench$Weaver", "times", "(II)V"⟩,
  ⟨"AssertionBench$Weaver", "copyStates", "(III)V"⟩,
  ⟨"AssertionBench$Weaver", "countCondition", "(IZ)V"⟩,
  ⟨"AssertionBench$PropertyReader", "itemEnded", "(LAssertionBench$Property;)V"⟩,
  ⟨"AssertionBench$PropertyReader", "rankOf", "(I)I"⟩,
  ⟨"AssertionBench$PropertyReader", "joinItems", "(I)V"⟩,
  ⟨"AssertionBench$Weaver", "chain", "()V"⟩,
  ⟨"AssertionBench$Weaver", "weightsTogether", "()I"⟩,
  ⟨"AssertionBench$Weaver", "mergeTwo", "(I)Z"⟩,
  ⟨"AssertionBench$Weaver", "overlap", "()V"⟩,
  ⟨"AssertionBench$Weaver", "stepMask", "(IJ)J"⟩,
  ⟨"AssertionBench$Weaver", "shareSteps", "(IJJ)V"⟩,
  ⟨"AssertionBench$Weaver", "headMask", "(J)J"⟩,
  ⟨"AssertionBench$Weaver", "either", "()V"⟩,
  ⟨"AssertionBench$Weaver", "both", "()V"⟩,
  ⟨"AssertionBench$Weaver", "addPairStep", "(IIII)V"⟩,
  ⟨"AssertionBench$PropertyReader", "closeBrace", "(LAssertionBench$Property;)V"⟩,
  ⟨"AssertionBench$Weaver", "weight", "()I"⟩,
  ⟨"AssertionBench$Property", "addSequence", "(I)LAssertionBench$Sequence;"⟩,
  ⟨"AssertionBench$Weaver", "finish", "(LAssertionBench$Sequence;I)V"⟩,
  ⟨"AssertionBench$Weaver", "leadingTo", "(J)J"⟩,
  ⟨"AssertionBench$Sequence", "set", "(IIIJJ)V"⟩,
  ⟨"java/util/Arrays", "fill", "([JJ)V"⟩,
  ⟨"AssertionBench$Sequence", "addStep", "(IIJ)V"⟩,
  ⟨"AssertionBench$Sequence", "letterCount", "()I"⟩,
  ⟨"java/lang/Integer", "bitCount", "(I)I"⟩,
  ⟨"AssertionBench$PropertyReader", "behindSequence", "(LAssertionBench$Property;)V"⟩,
  ⟨"AssertionBench$Property", "kindOf", "(I)I"⟩,
  ⟨"AssertionBench$Property", "layOut", "()V"⟩,
  ⟨"AssertionBenchLaw", "letter", "(LAssertionBench;I[J)I"⟩,
  ⟨"AssertionBench", "letter", "(I)I"⟩,
  ⟨"AssertionBench", "isLetter", "(I)Z"⟩,
  ⟨"AssertionBench$Property", "startRow", "([JI)V"⟩,
  ⟨"AssertionBench$Property", "step", "([JIII)Z"⟩,
  ⟨"AssertionBench$Property", "stepPart", "([JIIII)Z"⟩,
  ⟨"AssertionBench$Property", "isIn", "(JI)Z"⟩,
  ⟨"AssertionBench$Property", "stepPlain", "([JIIZI)Z"⟩,
  ⟨"AssertionBench$Sequence", "accepts", "(J)Z"⟩,
  ⟨"AssertionBench$Sequence", "next", "(JI)J"⟩,
  ⟨"AssertionBench$Property", "stepRows", "([JIIII)V"⟩,
  ⟨"AssertionBench$Property", "stepNever", "([JIIII)Z"⟩,
  ⟨"AssertionBench$Property", "hasBegun", "(JI)Z"⟩,
  ⟨"AssertionBench$Property", "stepOpen", "([JIIII)Z"⟩,
  ⟨"AssertionBenchLaw", "word", "(LAssertionBench;I[J)I"⟩,
  ⟨"AssertionBench", "word", "(I)I"⟩,
  ⟨"AssertionBenchLaw", "row", "(LAssertionBench;III[J)I"⟩,
  ⟨"AssertionBench", "row", "(III)Z"⟩,
  ⟨"AssertionBench", "checkRow", "(III)V"⟩,
  ⟨"AssertionBench", "checkSequence", "(I)V"⟩,
  ⟨"AssertionBench$Property", "sequenceCount", "()I"⟩,
  ⟨"java/lang/IllegalStateException", "<init>", "()V"⟩,
  ⟨"AssertionBench$Property", "sequence", "(I)LAssertionBench$Sequence;"⟩,
  ⟨"AssertionBench", "statesBehind", "(LAssertionBench$Sequence;II)J"⟩,
  ⟨"AssertionBenchLaw", "goesOn", "(LAssertionBench;III[J)I"⟩,
  ⟨"AssertionBench", "goesOn", "(III)Z"⟩,
  ⟨"AssertionBench$Sequence", "canGoOn", "(J)Z"⟩,
  ⟨"AssertionBenchLaw", "classes", "(LAssertionBench;I[J)I"⟩,
  ⟨"AssertionBench", "classes", "(I)I"⟩,
  ⟨"AssertionBench", "checkClasses", "(I)V"⟩,
  ⟨"AssertionBench$Sequence", "weight", "()I"⟩,
  ⟨"AssertionBench$Property", "classesOf", "(I)LAssertionBench$Classes;"⟩,
  ⟨"AssertionBench$Classes", "isBuilt", "()Z"⟩,
  ⟨"AssertionBench$Classes", "build", "(LAssertionBench$Sequence;)V"⟩,
  ⟨"AssertionBench$Sequence", "signals", "()I"⟩,
  ⟨"AssertionBench$Classes", "exploreSets", "(LAssertionBench$Sequence;)V"⟩,
  ⟨"AssertionBench$Classes", "findSet", "(J)I"⟩,
  ⟨"AssertionBench$Classes", "group", "()V"⟩,
  ⟨"AssertionBench$Classes", "splitGroups", "()Z"⟩,
  ⟨"AssertionBench$Classes", "isAlike", "(II)Z"⟩,
  ⟨"AssertionBench$Classes", "numberGroups", "()V"⟩,
  ⟨"AssertionBench$Classes", "moveDown", "(II)V"⟩,
  ⟨"AssertionBench$Classes", "count", "()I"⟩,
  ⟨"AssertionBenchLaw", "classOf", "(LAssertionBench;III[J)I"⟩,
  ⟨"AssertionBench", "classOf", "(III)I"⟩,
  ⟨"AssertionBench$Classes", "ofRow", "([III)I"⟩,
  ⟨"AssertionBench$Classes", "behind", "(II)I"⟩,
  ⟨"AssertionBenchLaw", "classBehind", "(LAssertionBench;III[J)I"⟩,
  ⟨"AssertionBench", "classBehind", "(III)I"⟩,
  ⟨"AssertionBenchLaw", "kind", "(LAssertionBench;II[J)I"⟩,
  ⟨"AssertionBench", "kind", "(II)I"⟩,
  ⟨"AssertionBench$Classes", "kindOf", "(I)I"⟩,
  ⟨"AssertionBenchLaw", "flops", "(LAssertionBench;I[J)I"⟩,
  ⟨"AssertionBench", "flops", "(I)I"⟩,
  ⟨"AssertionBench", "checkSmall", "(I)V"⟩,
  ⟨"AssertionBench$Property", "isSmall", "()Z"⟩,
  ⟨"AssertionBench$Property", "flopCount", "()I"⟩,
  ⟨"AssertionBench$Property", "flopsOf", "(I)I"⟩,
  ⟨"AssertionBench$Classes", "countKinds", "(II)I"⟩,
  ⟨"AssertionBenchLaw", "flop", "(LAssertionBench;II[J)I"⟩,
  ⟨"AssertionBench", "flop", "(II)Z"⟩,
  ⟨"java/util/NoSuchElementException", "<init>", "()V"⟩,
  ⟨"AssertionBench$Property", "partFlop", "(I[J[II)Z"⟩,
  ⟨"AssertionBench$Property", "flopOf", "(II[J[II)Z"⟩,
  ⟨"AssertionBench$Property", "hasOpenRow", "(IIJ[II)Z"⟩,
  ⟨"AssertionBench$Classes", "ofKinds", "(III)I"⟩,
  ⟨"AssertionBench$Classes", "hasRow", "([III)Z"⟩,
  ⟨"AssertionBench$Property", "hasRowOf", "(IIJ[II)Z"⟩,
  ⟨"AssertionBenchLaw", "number", "(LAssertionBench;I[J)I"⟩,
  ⟨"AssertionBench", "number", "(I)I"⟩,
  ⟨"AssertionBench$Design", "writtenSign", "(I)I"⟩,
  ⟨"AssertionBench$Design", "write", "()V"⟩,
  ⟨"java/lang/StringBuilder", "setLength", "(I)V"⟩,
  ⟨"java/lang/AbstractStringBuilder", "setLength", "(I)V"⟩,
  ⟨"java/lang/StringIndexOutOfBoundsException", "<init>", "(I)V"⟩,
  ⟨"java/lang/StringBuilder", "append", "(Ljava/lang/String;)Ljava/lang/StringBuilder;"⟩,
  ⟨"java/lang/AbstractStringBuilder", "append", "(Ljava/lang/String;)Ljava/lang/AbstractStringBuilder;"⟩,
  ⟨"java/lang/AbstractStringBuilder", "appendNull", "()Ljava/lang/AbstractStringBuilder;"⟩,
  ⟨"java/lang/AbstractStringBuilder", "ensureCapacityInternal", "(I)V"⟩,
  ⟨"java/lang/AbstractStringBuilder", "newCapacity", "(I)I"⟩,
  ⟨"jdk/internal/util/ArraysSupport", "newLength", "(III)I"⟩,
  ⟨"jdk/internal/util/ArraysSupport", "hugeLength", "(II)I"⟩,
  ⟨"java/util/Arrays", "copyOf", "([BI)[B"⟩,
  ⟨"java/lang/AbstractStringBuilder", "isLatin1", "()Z"⟩,
  ⟨"java/lang/StringUTF16", "putCharsAt", "([BICCCC)I"⟩,
  ⟨"java/lang/StringUTF16", "checkBoundsBeginEnd", "(II[B)V"⟩,
  ⟨"java/lang/String", "checkBoundsBeginEnd", "(III)V"⟩,
  ⟨"jdk/internal/util/Preconditions", "checkFromToIndex", "(IIILjava/util/function/BiFunction;)I"⟩,
  ⟨"java/lang/StringUTF16", "putChar", "([BII)V"⟩,
  ⟨"java/lang/AbstractStringBuilder", "putStringAt", "(ILjava/lang/String;)V"⟩,
  ⟨"java/lang/AbstractStringBuilder", "inflateIfNeededFor", "(Ljava/lang/String;)V"⟩,
  ⟨"java/lang/AbstractStringBuilder", "inflate", "()V"⟩,
  ⟨"java/lang/StringLatin1", "inflate", "([BI[BII)V"⟩,
  ⟨"java/lang/StringUTF16", "inflate", "([BI[BII)V"⟩,
  ⟨"java/lang/StringUTF16", "checkBoundsOffCount", "(II[B)V"⟩,
  ⟨"java/lang/String", "checkBoundsOffCount", "(III)I"⟩,
  ⟨"jdk/internal/util/Preconditions", "checkFromIndexSize", "(IIILjava/util/function/BiFunction;)I"⟩,
  ⟨"java/lang/String", "getBytes", "([BIB)V"⟩,
  ⟨"java/lang/StringBuilder", "append", "(I)Ljava/lang/StringBuilder;"⟩,
  ⟨"java/lang/AbstractStringBuilder", "append", "(I)Ljava/lang/AbstractStringBuilder;"⟩,
  ⟨"java/lang/Integer", "stringSize", "(I)I"⟩,
  ⟨"java/lang/Integer", "getChars", "(II[B)I"⟩,
  ⟨"java/lang/StringUTF16", "getChars", "(III[B)I"⟩,
  ⟨"java/lang/StringUTF16", "getChars", "(II[B)I"⟩,
  ⟨"java/lang/StringBuilder", "toString", "()Ljava/lang/String;"⟩,
  ⟨"java/lang/String", "<init>", "(Ljava/lang/StringBuilder;)V"⟩,
  ⟨"java/lang/String", "<init>", "(Ljava/lang/AbstractStringBuilder;Ljava/lang/Void;)V"⟩,
  ⟨"java/lang/AbstractStringBuilder", "getValue", "()[B"⟩,
  ⟨"java/lang/StringBuilder", "length", "()I"⟩,
  ⟨"java/lang/AbstractStringBuilder", "length", "()I"⟩,
  ⟨"java/util/Arrays", "copyOfRange", "([BII)[B"⟩,
  ⟨"java/util/Arrays", "copyOfRangeByte", "([BII)[B"⟩,
  ⟨"java/util/Arrays", "checkLength", "(II)V"⟩,
  ⟨"java/lang/IllegalArgumentException", "<init>", "(Ljava/lang/String;)V"⟩,
  ⟨"java/lang/RuntimeException", "<init>", "(Ljava/lang/String;)V"⟩,
  ⟨"java/lang/Exception", "<init>", "(Ljava/lang/String;)V"⟩,
  ⟨"java/lang/Throwable", "<init>", "(Ljava/lang/String;)V"⟩,
  ⟨"java/lang/StringUTF16", "compress", "([BII)[B"⟩,
  ⟨"java/lang/StringUTF16", "compress", "([BI[BII)I"⟩,
  ⟨"java/lang/StringUTF16", "coderFromArrayLen", "([BI)B"⟩,
  ⟨"java/lang/IndexOutOfBoundsException", "<init>", "(Ljava/lang/String;)V"⟩,
  ⟨"java/lang/StringLatin1", "fillNull", "([BII)V"⟩,
  ⟨"java/util/Arrays", "fill", "([BIIB)V"⟩,
  ⟨"java/util/Arrays", "rangeCheck", "(III)V"⟩,
  ⟨"java/lang/ArrayIndexOutOfBoundsException", "<init>", "(I)V"⟩,
  ⟨"java/lang/StringUTF16", "fillNull", "([BII)V"⟩,
  ⟨"AssertionBench$Design", "writeNumber", "(I)V"⟩,
  ⟨"java/lang/StringBuilder", "append", "(C)Ljava/lang/StringBuilder;"⟩,
  ⟨"java/lang/AbstractStringBuilder", "append", "(C)Ljava/lang/AbstractStringBuilder;"⟩,
  ⟨"java/lang/StringLatin1", "canEncode", "(C)Z"⟩,
  ⟨"java/lang/StringUTF16", "putCharSB", "([BII)V"⟩,
  ⟨"java/lang/StringBuilder", "charAt", "(I)C"⟩,
  ⟨"java/lang/AbstractStringBuilder", "charAt", "(I)C"⟩,
  ⟨"AssertionBenchLaw", "has", "(LAssertionBench;I[J)I"⟩,
  ⟨"AssertionBench", "has", "(I)I"⟩,
  ⟨"AssertionBench$Design", "signalLiteral", "(I)I"⟩,
  ⟨"AssertionBench$Design", "inputs", "()I"⟩,
  ⟨"AssertionBench$Design", "latches", "()I"⟩,
  ⟨"AssertionBenchLaw", "design", "(LAssertionBench;II)I"⟩,
  ⟨"AssertionBench", "design", "(II)V"⟩,
  ⟨"AssertionBenchLaw", "gate", "(LAssertionBench;II[J)I"⟩,
  ⟨"AssertionBench", "gate", "(II)I"⟩,
  ⟨"AssertionBench$Design", "isLiteral", "(I)Z"⟩,
  ⟨"AssertionBenchLaw", "latch", "(LAssertionBench;IIZ)I"⟩,
  ⟨"AssertionBench", "latch", "(IIZ)V"⟩,
  ⟨"AssertionBenchLaw", "signal", "(LAssertionBench;II)I"⟩,
  ⟨"AssertionBench", "signal", "(II)V"⟩,
  ⟨"AssertionBenchLaw", "search", "(LAssertionBench;II[J)I"⟩,
  ⟨"AssertionBench", "search", "(II)I"⟩,
  ⟨"AssertionBench", "checkLook", "(IIZ)V"⟩,
  ⟨"AssertionBench$Hunt", "seek", "(LAssertionBench$Property;LAssertionBench$Property;LAssertionBench$Design;I)I"⟩,
  ⟨"AssertionBench$Hunt", "prepare", "(LAssertionBench$Property;LAssertionBench$Property;LAssertionBench$Design;I)V"⟩,
  ⟨"AssertionBench$Design", "firstLatches", "()I"⟩,
  ⟨"AssertionBench$Property", "rowSize", "()I"⟩,
  ⟨"AssertionBench$Hunt", "tryCycle", "(LAssertionBench$Property;LAssertionBench$Property;LAssertionBench$Design;I)I"⟩,
  ⟨"AssertionBench$Hunt", "cycleOf", "(LAssertionBench$Design;II)I"⟩,
  ⟨"AssertionBench$Design", "cycle", "(II)I"⟩,
  ⟨"AssertionBench$Design", "valueOf", "(I)I"⟩,
  ⟨"AssertionBench$Hunt", "keep", "(I)V"⟩,
  ⟨"AssertionBenchLaw", "run", "(LAssertionBench;II[J)I"⟩,
  ⟨"AssertionBench", "run", "(II)I"⟩,
  ⟨"AssertionBench", "checkFound", "(LAssertionBench$Hunt;I)V"⟩,
  ⟨"AssertionBench$Hunt", "found", "()I"⟩,
  ⟨"AssertionBench$Hunt", "inputsAt", "(I)I"⟩,
  ⟨"AssertionBench$Hunt", "letterAt", "(I)I"⟩,
  ⟨"AssertionBench$Hunt", "latchesAt", "(I)I"⟩,
  ⟨"AssertionBenchLaw", "differ", "(LAssertionBench;II[J)I"⟩,
  ⟨"AssertionBench", "differ", "(II)I"⟩,
  ⟨"AssertionBenchLaw", "witness", "(LAssertionBench;I[J)I"⟩,
  ⟨"AssertionBench", "witness", "(I)I"⟩,
  ⟨"AssertionBenchModel", "<init>", "()V"⟩,
  ⟨"AssertionBenchModel", "thrown", "()I"⟩,
  ⟨"AssertionBenchModel", "put", "(I)I"⟩,
  ⟨"AssertionBenchModel", "refuse", "(ZZ)Z"⟩,
  ⟨"AssertionBenchModel", "end", "(I)V"⟩,
  ⟨"AssertionBenchModel", "read", "(I)I"⟩,
  ⟨"AssertionBenchModel", "next", "()V"⟩,
  ⟨"AssertionBenchModel", "at", "(I)I"⟩,
  ⟨"AssertionBenchModel", "two", "(I)I"⟩,
  ⟨"AssertionBenchModel", "bracket", "()I"⟩,
  ⟨"AssertionBenchModel", "isDigit", "(I)Z"⟩,
  ⟨"AssertionBenchModel", "isSmall", "(I)Z"⟩,
  ⟨"AssertionBenchModel", "wordToken", "()I"⟩,
  ⟨"AssertionBenchModel", "isWord", "(IIIIII)Z"⟩,
  ⟨"AssertionBenchModel", "beginning", "()I"⟩,
  ⟨"AssertionBenchModel", "push", "(III)V"⟩,
  ⟨"AssertionBenchModel", "bad", "(I)V"⟩,
  ⟨"AssertionBenchModel", "sequence", "()I"⟩,
  ⟨"AssertionBenchModel", "opens", "()V"⟩,
  ⟨"AssertionBenchModel", "take", "(I)V"⟩,
  ⟨"AssertionBenchModel", "beginsCondition", "()Z"⟩,
  ⟨"AssertionBenchModel", "condition", "()I"⟩,
  ⟨"AssertionBenchModel", "literal", "(I)I"⟩,
  ⟨"AssertionBenchModel", "make", "(IIIII)I"⟩,
  ⟨"AssertionBenchModel", "counted", "(IZ)I"⟩,
  ⟨"AssertionBenchModel", "capped", "(I)I"⟩,
  ⟨"AssertionBenchModel", "rank", "(I)I"⟩,
  ⟨"AssertionBenchModel", "binary", "(III)I"⟩,
  ⟨"AssertionBenchModel", "ending", "(I)I"⟩,
  ⟨"AssertionBenchModel", "conditionAndEnd", "()I"⟩,
  ⟨"AssertionBenchModel", "keep", "(II)V"⟩,
  ⟨"AssertionBenchModel", "fewSequences", "()Z"⟩,
  ⟨"AssertionBenchModel", "hasSequence", "(I)Z"⟩,
  ⟨"AssertionBenchModel", "letter", "(I)I"⟩,
  ⟨"AssertionBenchModel", "wordFails", "(I)Z"⟩,
  ⟨"AssertionBenchModel", "choose", "(I)V"⟩,
  ⟨"AssertionBenchModel", "look", "(Z)V"⟩,
  ⟨"AssertionBenchModel", "isRow", "(I)Z"⟩,
  ⟨"AssertionBenchModel", "rows", "(I)V"⟩,
  ⟨"AssertionBenchModel", "plain", "(I)V"⟩,
  ⟨"AssertionBenchModel", "last", "()I"⟩,
  ⟨"AssertionBenchModel", "clearSet", "()V"⟩,
  ⟨"AssertionBenchModel", "can", "(IIZ)Z"⟩,
  ⟨"AssertionBenchModel", "isWild", "(I)Z"⟩,
  ⟨"AssertionBenchModel", "holds", "(II)Z"⟩,
  ⟨"AssertionBenchModel", "join", "(I)V"⟩,
  ⟨"AssertionBenchModel", "store", "(II)V"⟩,
  ⟨"AssertionBenchModel", "chains", "(I)V"⟩,
  ⟨"AssertionBenchModel", "ends", "(III)Z"⟩,
  ⟨"AssertionBenchModel", "has", "(JJI)Z"⟩,
  ⟨"AssertionBenchModel", "joinEnds", "(II)V"⟩,
  ⟨"AssertionBenchModel", "choices", "(I)V"⟩,
  ⟨"AssertionBenchModel", "star", "(I)V"⟩,
  ⟨"AssertionBenchModel", "joinRound", "(I)V"⟩,
  ⟨"AssertionBenchModel", "storeRound", "(I)V"⟩,
  ⟨"AssertionBenchModel", "add", "(IZ)V"⟩,
  ⟨"AssertionBenchModel", "ahead", "(I)V"⟩,
  ⟨"AssertionBenchModel", "times", "(I)V"⟩,
  ⟨"AssertionBenchModel", "nothing", "()V"⟩,
  ⟨"AssertionBenchModel", "occurrences", "(I)V"⟩,
  ⟨"AssertionBenchModel", "reach", "(I)V"⟩,
  ⟨"AssertionBenchModel", "failsFrom", "(II)Z"⟩,
  ⟨"AssertionBenchModel", "suffix", "(II)Z"⟩,
  ⟨"AssertionBenchModel", "failsAt", "(II)Z"⟩,
  ⟨"AssertionBenchModel", "letterHolds", "(II)Z"⟩,
  ⟨"AssertionBenchModel", "anyRow", "(II)Z"⟩,
  ⟨"AssertionBenchModel", "until", "(II)Z"⟩,
  ⟨"AssertionBenchModel", "before", "(II)Z"⟩,
  ⟨"AssertionBenchModel", "clear", "()V"⟩,
  ⟨"AssertionBenchModel", "word", "(I)I"⟩,
  ⟨"AssertionBenchModel", "row", "(III)Z"⟩,
  ⟨"AssertionBenchModel", "begin", "(III)Z"⟩,
  ⟨"AssertionBenchModel", "goesOn", "(III)Z"⟩,
  ⟨"AssertionBenchModel", "classes", "(I)I"⟩,
  ⟨"AssertionBenchModel", "classesOf", "(II)Z"⟩,
  ⟨"AssertionBenchModel", "classify", "(II)V"⟩,
  ⟨"AssertionBenchModel", "allPlaces", "(I)V"⟩,
  ⟨"AssertionBenchModel", "places", "(I)V"⟩,
  ⟨"AssertionBenchModel", "maskOf", "(I)J"⟩,
  ⟨"AssertionBenchModel", "newPlace", "(J)I"⟩,
  ⟨"AssertionBenchModel", "leadTo", "(JJ)V"⟩,
  ⟨"AssertionBenchModel", "hasBit", "(JI)Z"⟩,
  ⟨"AssertionBenchModel", "fuse", "(III)V"⟩,
  ⟨"AssertionBenchModel", "pairUp", "(III)V"⟩,
  ⟨"AssertionBenchModel", "repeat", "(IIII)V"⟩,
  ⟨"AssertionBenchModel", "occur", "(IIIZ)V"⟩,
  ⟨"AssertionBenchModel", "allStates", "(I)V"⟩,
  ⟨"AssertionBenchModel", "stateOf", "(JZ)I"⟩,
  ⟨"AssertionBenchModel", "reaches", "(JJ)Z"⟩,
  ⟨"AssertionBenchModel", "refine", "()I"⟩,
  ⟨"AssertionBenchModel", "sameMoves", "(II)Z"⟩,
  ⟨"AssertionBenchModel", "classOf", "(III)I"⟩,
  ⟨"AssertionBenchModel", "classFrom", "(III)I"⟩,
  ⟨"AssertionBenchModel", "classBehind", "(III)I"⟩,
  ⟨"AssertionBenchModel", "kind", "(II)I"⟩,
  ⟨"AssertionBenchModel", "flops", "(I)I"⟩,
  ⟨"AssertionBenchModel", "isSmallProperty", "(I)Z"⟩,
  ⟨"AssertionBenchModel", "findParts", "(I)V"⟩,
  ⟨"AssertionBenchModel", "flopsOf", "(I)I"⟩,
  ⟨"AssertionBenchModel", "kindsFrom", "(III)I"⟩,
  ⟨"AssertionBenchModel", "flop", "(II)Z"⟩,
  ⟨"AssertionBenchModel", "findBegun", "()V"⟩,
  ⟨"AssertionBenchModel", "begin2", "(II)V"⟩,
  ⟨"AssertionBenchModel", "beginFrom", "(II)V"⟩,
  ⟨"AssertionBenchModel", "flopOf", "(II)Z"⟩,
  ⟨"AssertionBenchModel", "onFrom", "(II)Z"⟩,
  ⟨"AssertionBenchModel", "sequenceFlop", "(III)Z"⟩,
  ⟨"AssertionBenchModel", "classNumber", "(III)I"⟩,
  ⟨"AssertionBenchModel", "hasRowFrom", "(II)Z"⟩,
  ⟨"AssertionBenchModel", "design", "(II)V"⟩,
  ⟨"AssertionBenchModel", "gate", "(II)I"⟩,
  ⟨"AssertionBenchModel", "noLiteral", "(I)Z"⟩,
  ⟨"AssertionBenchModel", "latch", "(IIZ)V"⟩,
  ⟨"AssertionBenchModel", "signal", "(II)V"⟩,
  ⟨"AssertionBenchModel", "search", "(II)I"⟩,
  ⟨"AssertionBenchModel", "longest", "(II)I"⟩,
  ⟨"AssertionBenchModel", "fails", "(III)Z"⟩,
  ⟨"AssertionBenchModel", "cycle", "(II)I"⟩,
  ⟨"AssertionBenchModel", "value", "(I)Z"⟩,
  ⟨"AssertionBenchModel", "nextState", "()I"⟩,
  ⟨"AssertionBenchModel", "run", "(II)I"⟩,
  ⟨"AssertionBenchModel", "differ", "(II)I"⟩,
  ⟨"AssertionBenchModel", "witness", "(I)I"⟩,
  ⟨"AssertionBenchModel", "readDesign", "()I"⟩,
  ⟨"AssertionBenchModel", "nextOfDesign", "()V"⟩,
  ⟨"AssertionBenchModel", "nameToken", "()I"⟩,
  ⟨"AssertionBenchModel", "inputStatement", "()V"⟩,
  ⟨"AssertionBenchModel", "takeOfDesign", "(I)V"⟩,
  ⟨"AssertionBenchModel", "newName", "()V"⟩,
  ⟨"AssertionBenchModel", "told", "()I"⟩,
  ⟨"AssertionBenchModel", "latchStatement", "()V"⟩,
  ⟨"AssertionBenchModel", "wireStatement", "()V"⟩,
  ⟨"AssertionBenchModel", "expression", "()I"⟩,
  ⟨"AssertionBenchModel", "operand", "()V"⟩,
  ⟨"AssertionBenchModel", "openParenthesis", "()V"⟩,
  ⟨"AssertionBenchModel", "factor", "(I)V"⟩,
  ⟨"AssertionBenchModel", "opposite", "(I)I"⟩,
  ⟨"AssertionBenchModel", "newGate", "(III)I"⟩,
  ⟨"AssertionBenchModel", "endPart", "()V"⟩,
  ⟨"AssertionBenchModel", "behindPart", "()Z"⟩,
  ⟨"AssertionBenchModel", "closeParenthesis", "()V"⟩,
  ⟨"AssertionBenchModel", "nextStatement", "()V"⟩,
  ⟨"AssertionBenchModel", "signalStatement", "()V"⟩,
  ⟨"AssertionBenchModel", "takeDesign", "()V"⟩,
  ⟨"AssertionBenchModel", "readNumbers", "()I"⟩,
  ⟨"AssertionBenchModel", "takeWord", "()V"⟩,
  ⟨"AssertionBenchModel", "numberWithin", "(II)I"⟩,
  ⟨"AssertionBenchModel", "readRest", "(I)V"⟩,
  ⟨"AssertionBenchModel", "number", "(I)I"⟩,
  ⟨"AssertionBenchModel", "writeSign", "(I)V"⟩,
  ⟨"AssertionBenchModel", "writeNumber", "(I)V"⟩,
  ⟨"AssertionBenchModel", "has", "(I)I"⟩]
def pt_my (j : Nat) : MethodName := pt_myL.getD j ⟨"", "", ""⟩
def pt_xnL : List String := ["java/lang/IllegalArgumentException", "java/lang/UnsupportedOperationException", "java/lang/IndexOutOfBoundsException", "java/lang/IllegalStateException", "java/util/NoSuchElementException"]
def pt_xn (x : Nat) : String := pt_xnL.getD x ""
def pt_HHL : List (Nat × List (Nat × Nat × Nat × Nat)) := [(89, [(0, 9, 12, 13), (0, 9, 15, 15)]), (97, [(0, 5, 8, 13)]), (99, [(0, 9, 12, 24)]), (172, [(0, 9, 12, 13), (0, 9, 15, 15)]), (186, [(0, 9, 12, 13)]), (188, [(0, 19, 22, 24), (0, 19, 26, 13), (0, 19, 30, 36)]), (196, [(0, 19, 22, 24), (0, 19, 26, 13), (0, 19, 30, 36)]), (199, [(0, 9, 12, 24), (0, 9, 15, 36), (0, 9, 18, 15)]), (215, [(0, 12, 15, 24), (0, 12, 19, 13), (0, 12, 23, 36), (0, 12, 27, 15)]), (219, [(0, 12, 15, 24), (0, 12, 19, 36), (0, 12, 23, 15), (0, 12, 27, 13)]), (221, [(0, 10, 13, 24), (0, 10, 17, 36), (0, 10, 21, 15), (0, 10, 25, 13)]), (224, [(0, 9, 12, 24), (0, 9, 15, 15)]), (231, [(0, 17, 20, 24), (0, 17, 24, 15), (0, 17, 28, 62)]), (240, [(0, 9, 12, 24)]), (305, [(0, 9, 12, 13)]), (310, [(0, 6, 9, 13)]), (312, [(0, 10, 13, 13), (0, 10, 17, 15)]), (315, [(0, 7, 10, 13)]), (317, [(0, 6, 9, 13)]), (319, [(0, 10, 13, 24), (0, 10, 17, 13), (0, 10, 21, 15)]), (331, [(0, 10, 13, 36), (0, 10, 17, 24), (0, 10, 21, 13)]), (338, [(0, 10, 13, 13), (0, 10, 17, 15)]), (340, [(0, 9, 12, 36), (0, 9, 15, 24)])]
def pt_HH (j : Nat) : List (Nat × Nat × Nat × Nat) := (pt_look pt_HHL j).getD []
def pt_CXL : List (Nat × Nat) := [(13, 0), (15, 1), (24, 2), (36, 3), (62, 4)]
def pt_CX (o t x : Nat) : Option Bool := if o = 0 ∧ x < 5 then (match pt_look pt_CXL t with | some y => some (decide (x = y)) | none => none) else none
def pt_OTL : List (Nat × pz_C) := [(1, .inl (1, 0, [])),
  (2, .inl (0, 0, [])),
  (3, .inl (1, 0, [])),
  (4, .inl (1, 6, [(0, .long (-6148914691236517206)), (1, .long (-3689348814741910324)), (2, .long (-1085102592571150096)), (3, .long (-71777214294589696)), (4, .long (-281470681808896)), (5, .long (-4294967296))])),
  (5, .inl (3, 100, [(0, .int 48), (1, .int 49), (2, .int 50), (3, .int 51), (4, .int 52), (5, .int 53), (6, .int 54), (7, .int 55), (8, .int 56), (9, .int 57), (10, .int 48), (11, .int 49), (12, .int 50), (13, .int 51), (14, .int 52), (15, .int 53), (16, .int 54), (17, .int 55), (18, .int 56), (19, .int 57), (20, .int 48), (21, .int 49), (22, .int 50), (23, .int 51), (24, .int 52), (25, .int 53), (26, .int 54), (27, .int 55), (28, .int 56), (29, .int 57), (30, .int 48), (31, .int 49), (32, .int 50), (33, .int 51), (34, .int 52), (35, .int 53), (36, .int 54), (37, .int 55), (38, .int 56), (39, .int 57), (40, .int 48), (41, .int 49), (42, .int 50), (43, .int 51), (44, .int 52), (45, .int 53), (46, .int 54), (47, .int 55), (48, .int 56), (49, .int 57), (50, .int 48), (51, .int 49), (52, .int 50), (53, .int 51), (54, .int 52), (55, .int 53), (56, .int 54), (57, .int 55), (58, .int 56), (59, .int 57), (60, .int 48), (61, .int 49), (62, .int 50), (63, .int 51), (64, .int 52), (65, .int 53), (66, .int 54), (67, .int 55), (68, .int 56), (69, .int 57), (70, .int 48), (71, .int 49), (72, .int 50), (73, .int 51), (74, .int 52), (75, .int 53), (76, .int 54), (77, .int 55), (78, .int 56), (79, .int 57), (80, .int 48), (81, .int 49), (82, .int 50), (83, .int 51), (84, .int 52), (85, .int 53), (86, .int 54), (87, .int 55), (88, .int 56), (89, .int 57), (90, .int 48), (91, .int 49), (92, .int 50), (93, .int 51), (94, .int 52), (95, .int 53), (96, .int 54), (97, .int 55), (98, .int 56), (99, .int 57)])),
  (6, .inl (3, 100, [(0, .int 48), (1, .int 48), (2, .int 48), (3, .int 48), (4, .int 48), (5, .int 48), (6, .int 48), (7, .int 48), (8, .int 48), (9, .int 48), (10, .int 49), (11, .int 49), (12, .int 49), (13, .int 49), (14, .int 49), (15, .int 49), (16, .int 49), (17, .int 49), (18, .int 49), (19, .int 49), (20, .int 50), (21, .int 50), (22, .int 50), (23, .int 50), (24, .int 50), (25, .int 50), (26, .int 50), (27, .int 50), (28, .int 50), (29, .int 50), (30, .int 51), (31, .int 51), (32, .int 51), (33, .int 51), (34, .int 51), (35, .int 51), (36, .int 51), (37, .int 51), (38, .int 51), (39, .int 51), (40, .int 52), (41, .int 52), (42, .int 52), (43, .int 52), (44, .int 52), (45, .int 52), (46, .int 52), (47, .int 52), (48, .int 52), (49, .int 52), (50, .int 53), (51, .int 53), (52, .int 53), (53, .int 53), (54, .int 53), (55, .int 53), (56, .int 53), (57, .int 53), (58, .int 53), (59, .int 53), (60, .int 54), (61, .int 54), (62, .int 54), (63, .int 54), (64, .int 54), (65, .int 54), (66, .int 54), (67, .int 54), (68, .int 54), (69, .int 54), (70, .int 55), (71, .int 55), (72, .int 55), (73, .int 55), (74, .int 55), (75, .int 55), (76, .int 55), (77, .int 55), (78, .int 55), (79, .int 55), (80, .int 56), (81, .int 56), (82, .int 56), (83, .int 56), (84, .int 56), (85, .int 56), (86, .int 56), (87, .int 56), (88, .int 56), (89, .int 56), (90, .int 57), (91, .int 57), (92, .int 57), (93, .int 57), (94, .int 57), (95, .int 57), (96, .int 57), (97, .int 57), (98, .int 57), (99, .int 57)])),
  (10, .inr (14, [.ref 1099511627787, .int 0])),
  (11, .inl (3, 5, [(0, .int 105), (1, .int 110), (2, .int 112), (3, .int 117), (4, .int 116)])),
  (12, .inr (14, [.ref 1099511627789, .int 0])),
  (13, .inl (3, 5, [(0, .int 108), (1, .int 97), (2, .int 116), (3, .int 99), (4, .int 104)])),
  (14, .inr (14, [.ref 1099511627791, .int 0])),
  (15, .inl (3, 4, [(0, .int 119), (1, .int 105), (2, .int 114), (3, .int 101)])),
  (16, .inr (14, [.ref 1099511627793, .int 0])),
  (17, .inl (3, 4, [(0, .int 110), (1, .int 101), (2, .int 120), (3, .int 116)])),
  (18, .inr (14, [.ref 1099511627795, .int 0])),
  (19, .inl (3, 6, [(0, .int 115), (1, .int 105), (2, .int 103), (3, .int 110), (4, .int 97), (5, .int 108)])),
  (20, .inr (14, [.ref 1099511627797, .int 0])),
  (21, .inl (3, 3, [(0, .int 97), (1, .int 97), (2, .int 103)])),
  (22, .inr (14, [.ref 1099511627799, .int 0])),
  (23, .inl (3, 3, [(0, .int 91), (1, .int 42), (2, .int 93)])),
  (24, .inr (14, [.ref 1099511627801, .int 0])),
  (25, .inl (3, 3, [(0, .int 91), (1, .int 43), (2, .int 93)])),
  (26, .inr (14, [.ref 1099511627803, .int 0])),
  (27, .inl (3, 2, [(0, .int 91), (1, .int 42)])),
  (28, .inr (14, [.ref 1099511627805, .int 0])),
  (29, .inl (3, 2, [(0, .int 46), (1, .int 46)])),
  (30, .inr (14, [.ref 1099511627807, .int 0])),
  (31, .inl (3, 3, [(0, .int 91), (1, .int 45), (2, .int 62)])),
  (32, .inr (14, [.ref 1099511627809, .int 0])),
  (33, .inl (3, 2, [(0, .int 91), (1, .int 61)])),
  (34, .inr (14, [.ref 1099511627811, .int 0])),
  (35, .inl (3, 3, [(0, .int 124), (1, .int 45), (2, .int 62)])),
  (36, .inr (14, [.ref 1099511627813, .int 0])),
  (37, .inl (3, 3, [(0, .int 124), (1, .int 61), (2, .int 62)])),
  (38, .inr (14, [.ref 1099511627815, .int 0])),
  (39, .inl (3, 2, [(0, .int 124), (1, .int 124)])),
  (40, .inr (14, [.ref 1099511627817, .int 0])),
  (41, .inl (3, 2, [(0, .int 38), (1, .int 38)])),
  (42, .inr (14, [.ref 1099511627819, .int 0])),
  (43, .inl (3, 2, [(0, .int 45), (1, .int 62)])),
  (44, .inr (14, [.ref 1099511627821, .int 0])),
  (45, .inl (3, 6, [(0, .int 97), (1, .int 108), (2, .int 119), (3, .int 97), (4, .int 121), (5, .int 115)])),
  (46, .inr (14, [.ref 1099511627823, .int 0])),
  (47, .inl (3, 5, [(0, .int 110), (1, .int 101), (2, .int 118), (3, .int 101), (4, .int 114)])),
  (48, .inr (14, [.ref 1099511627825, .int 0])),
  (49, .inl (3, 5, [(0, .int 117), (1, .int 110), (2, .int 116), (3, .int 105), (4, .int 108)])),
  (50, .inr (14, [.ref 1099511627827, .int 0])),
  (51, .inl (3, 6, [(0, .int 98), (1, .int 101), (2, .int 102), (3, .int 111), (4, .int 114), (5, .int 101)])),
  (52, .inr (14, [.ref 1099511627829, .int 0])),
  (53, .inl (3, 3, [(0, .int 97), (1, .int 110), (2, .int 100)])),
  (54, .inr (14, [.ref 1099511627831, .int 0])),
  (55, .inl (3, 27, [(0, .int 83), (1, .int 116), (2, .int 114), (3, .int 105), (4, .int 110), (5, .int 103), (6, .int 32), (7, .int 105), (8, .int 110), (9, .int 100), (10, .int 101), (11, .int 120), (12, .int 32), (13, .int 111), (14, .int 117), (15, .int 116), (16, .int 32), (17, .int 111), (18, .int 102), (19, .int 32), (20, .int 114), (21, .int 97), (22, .int 110), (23, .int 103), (24, .int 101), (25, .int 58), (26, .int 32)])),
  (56, .inr (14, [.ref 1099511627833, .int 0])),
  (57, .inl (3, 3, [(0, .int 32), (1, .int 62), (2, .int 32)])),
  (58, .inr (14, [.ref 1099511627835, .int 0])),
  (59, .inl (3, 10, [(0, .int 102), (1, .int 114), (2, .int 111), (3, .int 109), (4, .int 73), (5, .int 110), (6, .int 100), (7, .int 101), (8, .int 120), (9, .int 40)])),
  (60, .inr (14, [.ref 1099511627837, .int 0])),
  (61, .inl (3, 12, [(0, .int 41), (1, .int 32), (2, .int 62), (3, .int 32), (4, .int 116), (5, .int 111), (6, .int 73), (7, .int 110), (8, .int 100), (9, .int 101), (10, .int 120), (11, .int 40)])),
  (62, .inr (14, [.ref 1099511627839, .int 0])),
  (63, .inl (3, 1, [(0, .int 41)])),
  (64, .inr (14, [.ref 1099511627841, .int 0])),
  (65, .inl (3, 26, [(0, .int 65), (1, .int 114), (2, .int 114), (3, .int 97), (4, .int 121), (5, .int 32), (6, .int 105), (7, .int 110), (8, .int 100), (9, .int 101), (10, .int 120), (11, .int 32), (12, .int 111), (13, .int 117), (14, .int 116), (15, .int 32), (16, .int 111), (17, .int 102), (18, .int 32), (19, .int 114), (20, .int 97), (21, .int 110), (22, .int 103), (23, .int 101), (24, .int 58), (25, .int 32)]))]
/-- the script is number 0 outside -/
abbrev pt_Sc : Type := Nat × List (Nat × Value) × Value
def pt_OT (sc : pt_Sc) (i : Nat) : Option pz_C := if i = 0 then some (.inl (0, sc.1, sc.2.1)) else pt_look pt_OTL i
/-- a static of which only that it is a reference or null is known -/
def pt_fv (fv v : Value) : Value := if v = .ref 1099511627783 then fv else v
def pt_STf (fv : Value) (o i : Nat) : Option Value := (pt_two pt_STL o i).map (pt_fv fv)
/-- a run of the program over a script -/
abbrev pt_run (sc : pt_Sc) : Nat → Nat → Nat → Nat → List (Nat × Value) → List Value → List pz_C → Nat → Nat → Option pz_O := pz_run pt_cl pt_tk (pt_two pt_FL) (pt_two pt_KL) (pt_two pt_KAL) (pt_two pt_GL) (pt_two pt_ML) (pt_two pt_XL) pt_mt pt_fz (pt_OT sc) (pt_STf sc.2.2) (pt_two pt_LSL) pt_HH pt_CX
