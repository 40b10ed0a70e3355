/-! THE ABSTRACT MACHINE, its program: classes (their rows are the printed ones), methods, code, pools; each row is checked against the tables' words by its place there. -/
def RX0 : String := "CodeSmith$Assembler"
def TX0 : u_T := fun k => match k with
  | 0 => ("CodeSmith$Assembler", "made", "LCodeSmith$Image;", false)
  | 1 => ("CodeSmith$Assembler", "spare", "LCodeSmith$Image;", false)
  | 2 => ("CodeSmith$Assembler", "tokens", "LCodeSmith$Tokens;", true)
  | 3 => ("CodeSmith$Assembler", "symbols", "LCodeSmith$Symbols;", true)
  | 4 => ("CodeSmith$Assembler", "calculator", "LCodeSmith$Calculator;", true)
  | 5 => ("CodeSmith$Assembler", "again", "Z", false)
  | 6 => ("CodeSmith$Assembler", "section", "I", false)
  | 7 => ("CodeSmith$Assembler", "textEnd", "I", false)
  | 8 => ("CodeSmith$Assembler", "dataEnd", "I", false)
  | 9 => ("CodeSmith$Assembler", "entry", "I", false)
  | 10 => ("CodeSmith$Assembler", "place", "I", false)
  | 11 => ("CodeSmith$Assembler", "d", "I", false)
  | 12 => ("CodeSmith$Assembler", "a", "I", false)
  | 13 => ("CodeSmith$Assembler", "b", "I", false)
  | 14 => ("CodeSmith$Assembler", "value", "I", false)
  | _ => ("CodeSmith$Assembler", "bytes", "I", false)
def tyX0 : Nat → FieldType := fun k => match k with
  | 0 => .object "CodeSmith$Image"
  | 1 => .object "CodeSmith$Image"
  | 2 => .object "CodeSmith$Tokens"
  | 3 => .object "CodeSmith$Symbols"
  | 4 => .object "CodeSmith$Calculator"
  | 5 => .boolean
  | 6 => .int
  | 7 => .int
  | 8 => .int
  | 9 => .int
  | 10 => .int
  | 11 => .int
  | 12 => .int
  | 13 => .int
  | 14 => .int
  | _ => .int
theorem nmX0 : ∀ a, a < 16 → ∀ b, b < 16 → a ≠ b → (TX0 a).2.1 ≠ (TX0 b).2.1 := by decide +kernel
theorem tyX0_ok : ∀ k, k < 16 → parseFieldDescriptor (TX0 k).2.2.1 = some (tyX0 k) := by decide +kernel
def RX1 : String := "CodeSmith$Calculator"
def TX1 : u_T := fun k => match k with
  | 0 => ("CodeSmith$Calculator", "mode", "I", false)
  | 1 => ("CodeSmith$Calculator", "here", "I", false)
  | 2 => ("CodeSmith$Calculator", "dataAddress", "I", false)
  | 3 => ("CodeSmith$Calculator", "early", "Z", false)
  | 4 => ("CodeSmith$Calculator", "tokens", "LCodeSmith$Tokens;", true)
  | _ => ("CodeSmith$Calculator", "symbols", "LCodeSmith$Symbols;", true)
def tyX1 : Nat → FieldType := fun k => match k with
  | 0 => .int
  | 1 => .int
  | 2 => .int
  | 3 => .boolean
  | 4 => .object "CodeSmith$Tokens"
  | _ => .object "CodeSmith$Symbols"
theorem nmX1 : ∀ a, a < 6 → ∀ b, b < 6 → a ≠ b → (TX1 a).2.1 ≠ (TX1 b).2.1 := by decide +kernel
theorem tyX1_ok : ∀ k, k < 6 → parseFieldDescriptor (TX1 k).2.2.1 = some (tyX1 k) := by decide +kernel
def RX2 : String := "CodeSmith$Image"
def TX2 : u_T := fun k => match k with
  | 0 => ("CodeSmith$Image", "length", "I", false)
  | 1 => ("CodeSmith$Image", "textSize", "I", false)
  | 2 => ("CodeSmith$Image", "dataSize", "I", false)
  | 3 => ("CodeSmith$Image", "symbolCount", "I", false)
  | _ => ("CodeSmith$Image", "bytes", "[B", false)
def tyX2 : Nat → FieldType := fun k => match k with
  | 0 => .int
  | 1 => .int
  | 2 => .int
  | 3 => .int
  | _ => .array .byte
theorem nmX2 : ∀ a, a < 5 → ∀ b, b < 5 → a ≠ b → (TX2 a).2.1 ≠ (TX2 b).2.1 := by decide +kernel
theorem tyX2_ok : ∀ k, k < 5 → parseFieldDescriptor (TX2 k).2.2.1 = some (tyX2 k) := by decide +kernel
def RX4 : String := "CodeSmith$Symbols"
def TX4 : u_T := fun k => match k with
  | 0 => ("CodeSmith$Symbols", "count", "I", false)
  | 1 => ("CodeSmith$Symbols", "text", "[B", false)
  | 2 => ("CodeSmith$Symbols", "heads", "[I", true)
  | 3 => ("CodeSmith$Symbols", "nexts", "[I", false)
  | 4 => ("CodeSmith$Symbols", "starts", "[I", false)
  | 5 => ("CodeSmith$Symbols", "lengths", "[I", false)
  | 6 => ("CodeSmith$Symbols", "sections", "[I", false)
  | 7 => ("CodeSmith$Symbols", "values", "[I", false)
  | _ => ("CodeSmith$Symbols", "lines", "[I", false)
def tyX4 : Nat → FieldType := fun k => match k with
  | 0 => .int
  | 1 => .array .byte
  | 2 => .array .int
  | 3 => .array .int
  | 4 => .array .int
  | 5 => .array .int
  | 6 => .array .int
  | 7 => .array .int
  | _ => .array .int
theorem nmX4 : ∀ a, a < 9 → ∀ b, b < 9 → a ≠ b → (TX4 a).2.1 ≠ (TX4 b).2.1 := by decide +kernel
theorem tyX4_ok : ∀ k, k < 9 → parseFieldDescriptor (TX4 k).2.2.1 = some (tyX4 k) := by decide +kernel
def RX5 : String := "CodeSmith$Tokens"
def TX5 : u_T := fun k => match k with
  | 0 => ("CodeSmith$Tokens", "errorLine", "I", false)
  | 1 => ("CodeSmith$Tokens", "errorPlace", "I", false)
  | 2 => ("CodeSmith$Tokens", "errorKind", "I", false)
  | 3 => ("CodeSmith$Tokens", "kind", "I", false)
  | 4 => ("CodeSmith$Tokens", "start", "I", false)
  | 5 => ("CodeSmith$Tokens", "value", "I", false)
  | 6 => ("CodeSmith$Tokens", "line", "I", false)
  | 7 => ("CodeSmith$Tokens", "text", "[B", false)
  | 8 => ("CodeSmith$Tokens", "textEnd", "I", false)
  | 9 => ("CodeSmith$Tokens", "lineStart", "I", false)
  | 10 => ("CodeSmith$Tokens", "lineEnd", "I", false)
  | 11 => ("CodeSmith$Tokens", "kinds", "[I", false)
  | 12 => ("CodeSmith$Tokens", "starts", "[I", false)
  | 13 => ("CodeSmith$Tokens", "values", "[I", false)
  | 14 => ("CodeSmith$Tokens", "count", "I", false)
  | 15 => ("CodeSmith$Tokens", "at", "I", false)
  | 16 => ("CodeSmith$Tokens", "flawed", "I", false)
  | _ => ("CodeSmith$Tokens", "flaw", "I", false)
def tyX5 : Nat → FieldType := fun k => match k with
  | 0 => .int
  | 1 => .int
  | 2 => .int
  | 3 => .int
  | 4 => .int
  | 5 => .int
  | 6 => .int
  | 7 => .array .byte
  | 8 => .int
  | 9 => .int
  | 10 => .int
  | 11 => .array .int
  | 12 => .array .int
  | 13 => .array .int
  | 14 => .int
  | 15 => .int
  | 16 => .int
  | _ => .int
theorem nmX5 : ∀ a, a < 18 → ∀ b, b < 18 → a ≠ b → (TX5 a).2.1 ≠ (TX5 b).2.1 := by decide +kernel
theorem tyX5_ok : ∀ k, k < 18 → parseFieldDescriptor (TX5 k).2.2.1 = some (tyX5 k) := by decide +kernel
def RX6 : String := "CodeSmith"
def TX6 : u_T := fun k => match k with
  | 0 => ("CodeSmith", "tape", "[B", false)
  | 1 => ("CodeSmith", "tapeSize", "I", false)
  | 2 => ("CodeSmith", "tokens", "LCodeSmith$Tokens;", true)
  | _ => ("CodeSmith", "assembler", "LCodeSmith$Assembler;", true)
def tyX6 : Nat → FieldType := fun k => match k with
  | 0 => .array .byte
  | 1 => .int
  | 2 => .object "CodeSmith$Tokens"
  | _ => .object "CodeSmith$Assembler"
theorem nmX6 : ∀ a, a < 4 → ∀ b, b < 4 → a ≠ b → (TX6 a).2.1 ≠ (TX6 b).2.1 := by decide +kernel
theorem tyX6_ok : ∀ k, k < 4 → parseFieldDescriptor (TX6 k).2.2.1 = some (tyX6 k) := by decide +kernel
def RX7 : String := "CodeSmithModel"
def TX7 : u_T := fun k => match k with
  | 0 => ("CodeSmithModel", "registers", "[J", true)
  | 1 => ("CodeSmithModel", "statements", "[J", true)
  | 2 => ("CodeSmithModel", "parts", "[I", true)
  | 3 => ("CodeSmithModel", "thrown", "I", false)
  | 4 => ("CodeSmithModel", "tape", "[B", true)
  | 5 => ("CodeSmithModel", "size", "I", false)
  | 6 => ("CodeSmithModel", "image", "[B", true)
  | 7 => ("CodeSmithModel", "imageSize", "I", false)
  | 8 => ("CodeSmithModel", "textSize", "I", false)
  | 9 => ("CodeSmithModel", "dataSize", "I", false)
  | 10 => ("CodeSmithModel", "names", "I", false)
  | 11 => ("CodeSmithModel", "kind", "I", false)
  | 12 => ("CodeSmithModel", "place", "I", false)
  | 13 => ("CodeSmithModel", "at", "I", false)
  | 14 => ("CodeSmithModel", "length", "I", false)
  | 15 => ("CodeSmithModel", "line", "I", false)
  | 16 => ("CodeSmithModel", "from", "I", false)
  | 17 => ("CodeSmithModel", "to", "I", false)
  | 18 => ("CodeSmithModel", "p", "I", false)
  | 19 => ("CodeSmithModel", "again", "Z", false)
  | 20 => ("CodeSmithModel", "token", "I", false)
  | 21 => ("CodeSmithModel", "start", "I", false)
  | 22 => ("CodeSmithModel", "value", "I", false)
  | 23 => ("CodeSmithModel", "flaw", "I", false)
  | 24 => ("CodeSmithModel", "many", "I", false)
  | 25 => ("CodeSmithModel", "string", "[B", true)
  | 26 => ("CodeSmithModel", "symbols", "I", false)
  | 27 => ("CodeSmithModel", "symbolAt", "[I", true)
  | 28 => ("CodeSmithModel", "symbolSize", "[I", true)
  | 29 => ("CodeSmithModel", "symbolKind", "[I", true)
  | 30 => ("CodeSmithModel", "symbolValue", "[I", true)
  | 31 => ("CodeSmithModel", "symbolLine", "[I", true)
  | 32 => ("CodeSmithModel", "section", "I", false)
  | 33 => ("CodeSmithModel", "here", "I", false)
  | 34 => ("CodeSmithModel", "base", "I", false)
  | 35 => ("CodeSmithModel", "sizes", "[I", true)
  | 36 => ("CodeSmithModel", "bytes", "[B", true)
  | 37 => ("CodeSmithModel", "unfit", "Z", false)
  | 38 => ("CodeSmithModel", "late", "Z", false)
  | 39 => ("CodeSmithModel", "values", "I", false)
  | 40 => ("CodeSmithModel", "signs", "I", false)
  | 41 => ("CodeSmithModel", "depth", "I", false)
  | 42 => ("CodeSmithModel", "pile", "[I", true)
  | 43 => ("CodeSmithModel", "sign", "[I", true)
  | 44 => ("CodeSmithModel", "signAt", "[I", true)
  | 45 => ("CodeSmithModel", "factor", "[I", true)
  | 46 => ("CodeSmithModel", "summand", "[I", true)
  | _ => ("CodeSmithModel", "reg", "I", false)
def tyX7 : Nat → FieldType := fun k => match k with
  | 0 => .array .long
  | 1 => .array .long
  | 2 => .array .int
  | 3 => .int
  | 4 => .array .byte
  | 5 => .int
  | 6 => .array .byte
  | 7 => .int
  | 8 => .int
  | 9 => .int
  | 10 => .int
  | 11 => .int
  | 12 => .int
  | 13 => .int
  | 14 => .int
  | 15 => .int
  | 16 => .int
  | 17 => .int
  | 18 => .int
  | 19 => .boolean
  | 20 => .int
  | 21 => .int
  | 22 => .int
  | 23 => .int
  | 24 => .int
  | 25 => .array .byte
  | 26 => .int
  | 27 => .array .int
  | 28 => .array .int
  | 29 => .array .int
  | 30 => .array .int
  | 31 => .array .int
  | 32 => .int
  | 33 => .int
  | 34 => .int
  | 35 => .array .int
  | 36 => .array .byte
  | 37 => .boolean
  | 38 => .boolean
  | 39 => .int
  | 40 => .int
  | 41 => .int
  | 42 => .array .int
  | 43 => .array .int
  | 44 => .array .int
  | 45 => .array .int
  | 46 => .array .int
  | _ => .int
theorem nmX7 : ∀ a, a < 48 → ∀ b, b < 48 → a ≠ b → (TX7 a).2.1 ≠ (TX7 b).2.1 := by decide +kernel
theorem tyX7_ok : ∀ k, k < 48 → parseFieldDescriptor (TX7 k).2.2.1 = some (tyX7 k) := by decide +kernel
def ab_TE : u_T := fun _ => ("", "", "", false)
abbrev ab_cl : List vw_C := [(RX0, TX0, 16), (RX1, TX1, 6), (RX2, TX2, 5), (RX4, TX4, 9), (RX5, TX5, 18), (RX6, TX6, 4), (RX7, TX7, 48), ("java/lang/IllegalArgumentException", ab_TE, 0)]
def ab_ty : Nat → Nat → FieldType := fun c => match c with
  | 0 => tyX0
  | 1 => tyX1
  | 2 => tyX2
  | 3 => tyX4
  | 4 => tyX5
  | 5 => tyX6
  | 6 => tyX7
  | _ => fun _ => .int
def ab_own : List String := ["CodeSmith", "CodeSmith$Symbols", "CodeSmith$Tokens", "CodeSmith$Calculator", "CodeSmith$Assembler", "CodeSmith$Image", "java/util/Arrays", "java/lang/String", "java/lang/StringLatin1", "java/lang/Integer", "CodeSmithModel", "jdk/internal/util/Preconditions"]
def ab_T : List Cond := lw_tbl.filter goodWord
theorem ab_T_in {i : Nat} {w : Cond} (h : lw_tbl[i]? = some w) (g : goodWord w = true) : w ∈ ab_T := List.mem_filter.mpr ⟨List.mem_of_getElem? h, g⟩
theorem ab_T_good : GoodIn lw_tbl ab_T := fun w h => ⟨(List.mem_filter.mp h).1, good_of_word (List.mem_filter.mp h).2⟩
theorem ab_T_goodT {Ts : List Cond} (h : ∀ w ∈ ab_T, w ∈ Ts) : GoodIn Ts ab_T := fun w q => ⟨h w q, good_of_word (List.mem_filter.mp q).2⟩
/-- fields: own class, pool index, class, field, the word's place -/
def ab_pf : List (Nat × Nat × Nat × Nat × Nat) := [(0, 7, 5, 0, 350), (0, 19, 5, 2, 352), (0, 33, 5, 3, 353), (1, 9, 3, 1, 137), (1, 15, 3, 2, 138), (1, 19, 3, 3, 139), (1, 22, 3, 4, 140), (1, 25, 3, 5, 141), (1, 28, 3, 6, 142), (1, 31, 3, 7, 143), (1, 34, 3, 8, 144), (2, 9, 4, 7, 190), (2, 15, 4, 11, 194), (2, 19, 4, 12, 195), (2, 22, 4, 13, 196), (3, 9, 1, 4, 254), (3, 15, 1, 5, 255), (4, 12, 0, 0, 300), (4, 18, 0, 1, 302), (4, 21, 0, 2, 303), (4, 25, 0, 3, 304), (4, 29, 0, 4, 305), (5, 9, 2, 4, 288), (0, 37, 5, 1, 351), (0, 83, 4, 0, 173), (0, 86, 4, 1, 175), (0, 89, 4, 2, 177), (0, 92, 0, 0, 301), (5, 26, 2, 0, 279), (0, 102, 2, 0, 281), (0, 105, 2, 1, 283), (0, 108, 2, 2, 285), (0, 111, 2, 3, 287), (2, 31, 4, 8, 191), (2, 35, 4, 0, 172), (2, 38, 4, 1, 174), (2, 41, 4, 2, 176), (2, 47, 4, 6, 187), (2, 50, 4, 10, 193), (4, 39, 0, 9, 310), (4, 43, 0, 5, 306), (4, 47, 1, 2, 250), (1, 37, 3, 0, 135), (4, 147, 0, 6, 307), (4, 55, 0, 7, 308), (4, 58, 0, 8, 309), (2, 53, 4, 9, 192), (2, 59, 4, 15, 198), (2, 88, 4, 14, 197), (2, 82, 4, 16, 199), (2, 85, 4, 17, 200), (2, 72, 4, 3, 180), (2, 75, 4, 4, 183), (2, 122, 4, 5, 186), (4, 84, 4, 3, 179), (4, 89, 4, 4, 182), (4, 92, 0, 10, 311), (4, 95, 4, 5, 185), (4, 72, 3, 0, 136), (4, 166, 4, 6, 189), (4, 187, 0, 11, 312), (4, 190, 0, 12, 313), (4, 193, 0, 13, 314), (4, 196, 0, 14, 315), (4, 197, 0, 15, 316), (4, 200, 1, 3, 253), (4, 203, 1, 1, 249), (4, 206, 1, 0, 247), (3, 24, 4, 3, 178), (3, 33, 4, 4, 181), (3, 72, 4, 5, 184), (3, 92, 4, 6, 188), (3, 99, 1, 3, 252), (3, 103, 1, 0, 246), (3, 106, 1, 2, 251), (3, 112, 1, 1, 248), (5, 19, 2, 2, 284), (5, 15, 2, 1, 282), (4, 75, 2, 3, 286), (4, 78, 2, 0, 280), (10, 73, 6, 0, 1045), (10, 245, 6, 1, 1046), (10, 248, 6, 2, 1047), (10, 253, 6, 4, 1049), (10, 257, 6, 6, 1051), (10, 260, 6, 25, 1070), (10, 263, 6, 27, 1072), (10, 266, 6, 28, 1073), (10, 269, 6, 29, 1074), (10, 272, 6, 30, 1075), (10, 275, 6, 31, 1076), (10, 278, 6, 35, 1080), (10, 282, 6, 36, 1081), (10, 285, 6, 42, 1087), (10, 288, 6, 43, 1088), (10, 291, 6, 44, 1089), (10, 294, 6, 45, 1090), (10, 297, 6, 46, 1091), (10, 300, 6, 3, 1048), (10, 304, 6, 5, 1050), (10, 557, 6, 14, 1059), (10, 307, 6, 11, 1056), (10, 405, 6, 26, 1071), (10, 408, 6, 19, 1064), (10, 418, 6, 34, 1079), (10, 586, 6, 7, 1052), (10, 477, 6, 32, 1077), (10, 316, 6, 15, 1060), (10, 310, 6, 16, 1061), (10, 325, 6, 17, 1062), (10, 322, 6, 18, 1063), (10, 358, 6, 20, 1065), (10, 349, 6, 21, 1066), (10, 449, 6, 33, 1078), (10, 480, 6, 37, 1082), (10, 352, 6, 22, 1067), (10, 339, 6, 23, 1068), (10, 381, 6, 24, 1069), (10, 313, 6, 12, 1057), (10, 319, 6, 13, 1058), (10, 505, 6, 47, 1092), (10, 430, 6, 39, 1084), (10, 421, 6, 40, 1085), (10, 443, 6, 41, 1086), (10, 415, 6, 38, 1083), (10, 580, 6, 8, 1053), (10, 583, 6, 9, 1054), (10, 589, 6, 10, 1055)]
def ab_pf_ok (q : Nat × Nat × Nat × Nat × Nat) : Bool := match ab_own[q.1]?, ab_cl[q.2.2.1]? with
  | some O, some C => decide (lw_tbl[q.2.2.2.2]? = some (.fieldLink O q.2.1 (C.2.1 q.2.2.2.1).1 (C.2.1 q.2.2.2.1).2.1 (C.2.1 q.2.2.2.1).2.2.1)) && decide (q.2.2.2.1 < C.2.2)
  | _, _ => false
set_option maxRecDepth 100000 in
theorem ab_pf_all : ab_pf.all ab_pf_ok = true := by decide +kernel
def ab_pV : List (Nat × Nat × Nat × Nat × Nat × Nat) := [(0, 54, 8, 385, 387, 0), (0, 96, 13, 405, 406, 407), (0, 58, 16, 421, 422, 423), (0, 62, 18, 430, 431, 432), (0, 66, 22, 445, 446, 447), (0, 70, 42, 523, 524, 525), (0, 73, 17, 889, 427, 428), (0, 76, 102, 890, 891, 892), (0, 79, 105, 905, 906, 907), (2, 44, 17, 426, 427, 428), (4, 33, 19, 434, 435, 436), (4, 52, 21, 441, 443, 1), (2, 56, 23, 449, 451, 2), (2, 62, 41, 519, 521, 13), (2, 125, 24, 453, 455, 3), (2, 100, 25, 460, 462, 4), (2, 129, 26, 464, 466, 5), (2, 132, 30, 478, 480, 7), (2, 146, 29, 474, 476, 6), (2, 149, 32, 486, 488, 9), (2, 152, 34, 493, 495, 10), (2, 155, 35, 497, 499, 11), (2, 158, 39, 512, 514, 12), (2, 161, 31, 482, 484, 8), (2, 170, 36, 501, 502, 503), (2, 173, 38, 508, 509, 510), (4, 81, 43, 527, 529, 14), (4, 98, 45, 536, 537, 538), (4, 102, 65, 717, 719, 23), (4, 106, 46, 694, 541, 542), (4, 114, 66, 723, 725, 24), (4, 120, 67, 727, 729, 25), (4, 123, 85, 803, 805, 34), (4, 126, 86, 809, 811, 35), (4, 129, 87, 813, 815, 36), (4, 133, 89, 828, 830, 37), (4, 137, 92, 842, 844, 40), (4, 141, 99, 876, 878, 45), (4, 144, 101, 885, 887, 47), (4, 151, 44, 532, 533, 534), (4, 155, 47, 609, 611, 16), (4, 159, 51, 696, 627, 628), (4, 163, 61, 697, 699, 21), (4, 169, 62, 701, 702, 703), (2, 78, 46, 540, 541, 542), (4, 173, 48, 613, 614, 615), (4, 176, 58, 682, 683, 684), (2, 94, 49, 617, 619, 17), (2, 97, 50, 621, 623, 18), (2, 178, 51, 626, 627, 628), (2, 104, 52, 630, 631, 632), (2, 110, 54, 640, 641, 642), (7, 335, 53, 634, 635, 636), (7, 492, 55, 644, 645, 646), (1, 47, 59, 686, 688, 19), (1, 51, 60, 690, 692, 20), (1, 55, 63, 705, 707, 22), (4, 209, 68, 731, 732, 733), (4, 212, 82, 791, 793, 33), (3, 19, 69, 735, 737, 26), (3, 36, 45, 743, 537, 538), (3, 40, 68, 766, 732, 733), (3, 44, 80, 783, 785, 31), (3, 52, 71, 744, 746, 27), (3, 56, 74, 758, 760, 28), (3, 59, 75, 762, 764, 29), (3, 62, 76, 767, 769, 30), (3, 87, 58, 748, 683, 684), (3, 95, 72, 749, 750, 751), (3, 75, 46, 753, 541, 542), (3, 109, 73, 754, 755, 756), (3, 81, 51, 772, 627, 628), (3, 115, 81, 787, 789, 32), (4, 262, 83, 795, 796, 797), (4, 265, 84, 799, 800, 801), (4, 215, 36, 807, 502, 503), (4, 218, 38, 808, 509, 510), (4, 226, 88, 819, 820, 821), (2, 91, 48, 823, 614, 615), (4, 238, 52, 832, 631, 632), (4, 242, 54, 833, 641, 642), (4, 246, 90, 834, 836, 38), (4, 249, 91, 838, 840, 39), (4, 268, 93, 846, 848, 41), (4, 271, 94, 850, 852, 42), (4, 282, 97, 862, 864, 43), (4, 258, 98, 872, 874, 44), (4, 254, 100, 881, 883, 46), (4, 61, 103, 894, 895, 896), (5, 22, 83, 898, 796, 797), (4, 65, 73, 909, 755, 756), (4, 69, 106, 910, 911, 912), (5, 46, 84, 915, 800, 801), (5, 51, 107, 917, 919, 48), (10, 592, 114, 1211, 1213, 49), (10, 595, 170, 1432, 1434, 95), (10, 560, 115, 1215, 1217, 50), (10, 545, 116, 1219, 1221, 51), (10, 394, 135, 1291, 1293, 66), (10, 342, 131, 1275, 1277, 62), (10, 387, 117, 1223, 1225, 52), (10, 548, 138, 1303, 1305, 69), (10, 551, 165, 1412, 1414, 90), (10, 554, 167, 1420, 1422, 92), (10, 398, 130, 1271, 1273, 61), (10, 346, 118, 1227, 1229, 53), (10, 335, 119, 1231, 1233, 54), (10, 539, 132, 1279, 1281, 63), (10, 542, 137, 1299, 1301, 68), (10, 361, 123, 1244, 1246, 55), (10, 365, 124, 1248, 1250, 56), (10, 368, 126, 1255, 1257, 57), (10, 371, 128, 1263, 1265, 59), (10, 373, 129, 1267, 1269, 60), (10, 378, 127, 1259, 1261, 58), (10, 412, 133, 1283, 1285, 64), (10, 401, 134, 1287, 1289, 65), (10, 390, 136, 1295, 1297, 67), (10, 512, 139, 1307, 1309, 70), (10, 491, 140, 1311, 1313, 71), (10, 486, 144, 1326, 1328, 74), (10, 502, 145, 1331, 1333, 75), (10, 483, 159, 1385, 1387, 85), (10, 518, 161, 1392, 1394, 86), (10, 521, 163, 1400, 1402, 88), (10, 526, 164, 1405, 1407, 89), (10, 384, 142, 1319, 1321, 73), (10, 495, 141, 1315, 1317, 72), (10, 473, 146, 1335, 1337, 76), (10, 464, 147, 1339, 1341, 77), (10, 467, 156, 1375, 1377, 84), (10, 451, 149, 1347, 1349, 79), (10, 446, 148, 1343, 1345, 78), (10, 454, 153, 1361, 1363, 81), (10, 457, 155, 1369, 1371, 83), (10, 437, 151, 1354, 1356, 80), (10, 440, 154, 1365, 1367, 82), (10, 498, 162, 1396, 1398, 87), (10, 530, 166, 1416, 1418, 91), (10, 533, 168, 1424, 1426, 93), (10, 536, 169, 1428, 1430, 94), (10, 572, 171, 1439, 1441, 96), (10, 563, 172, 1445, 1447, 97), (10, 576, 173, 1449, 1451, 98)]
def ab_pS : List (Nat × Nat × Nat × Nat × Nat) := [(0, 42, 997, 368, 369), (0, 48, 7, 371, 372), (6, 304, 997, 381, 369), (6, 150, 999, 382, 0), (2, 25, 997, 425, 369), (1, 41, 20, 438, 439), (2, 136, 996, 457, 458), (2, 139, 27, 468, 469), (2, 143, 28, 471, 472), (2, 164, 40, 516, 517), (2, 167, 33, 490, 491), (2, 119, 37, 505, 506), (2, 114, 57, 678, 679), (7, 495, 56, 648, 649), (8, 9, 177, 651, 652), (1, 58, 64, 709, 710), (3, 30, 79, 780, 781), (3, 48, 70, 740, 741), (3, 66, 77, 774, 775), (3, 69, 78, 777, 778), (4, 274, 95, 854, 855), (4, 279, 96, 859, 860), (4, 291, 77, 868, 775), (4, 294, 78, 871, 778), (5, 30, 997, 900, 369), (5, 36, 996, 901, 458), (5, 39, 104, 902, 903), (10, 328, 120, 1235, 1236), (10, 355, 121, 1238, 1239), (10, 332, 122, 1241, 1242), (10, 375, 125, 1252, 1253), (10, 515, 143, 1323, 1324), (10, 508, 160, 1389, 1390), (10, 470, 157, 1379, 1380), (10, 427, 158, 1382, 1383), (10, 424, 150, 1351, 1352), (10, 433, 152, 1358, 1359), (7, 1059, 178, 656, 657)]
def ab_pI : List (Nat × Nat × Nat × Nat × Nat) := [(0, 1, 998, 126, 127), (0, 15, 1, 131, 132), (0, 18, 2, 168, 169), (0, 27, 3, 242, 243), (0, 30, 4, 269, 270), (1, 3, 998, 134, 127), (2, 3, 998, 171, 127), (3, 3, 998, 245, 127), (4, 3, 998, 272, 127), (4, 11, 5, 275, 276), (5, 3, 998, 278, 127), (10, 1, 998, 926, 127)]
def ab_pN : List (Nat × Nat × Nat × Nat) := [(0, 13, 3, 129), (0, 16, 4, 166), (0, 23, 0, 238), (0, 25, 1, 240), (4, 9, 2, 273), (2, 65, 7, 544)]
def ab_pK : List (Nat × Nat × Nat × Nat) := [(0, 41, 65536, 367), (4, 150, 65536, 531), (3, 23, 65536, 739), (4, 277, 1048575, 857), (4, 278, 1048576, 858), (4, 253, 65420, 880), (5, 29, 65536, 899), (5, 45, 1179403647, 914), (5, 50, 65793, 916), (10, 252, 65536, 1043), (10, 281, 130840, 1044), (10, 476, 65420, 1330), (10, 525, 1048575, 1404), (10, 529, 1048691, 1411), (10, 489, 4293918720, 1409), (10, 490, 1048574, 1410), (10, 569, 1179403647, 1436), (10, 570, 65793, 1437), (10, 571, 15925250, 1438), (10, 575, 2097204, 1444)]
def ab_pL : List (Nat × Nat × Nat × Nat) := [(10, 7, 2053468783, 927), (10, 9, 29281, 928), (10, 11, 29552, 929), (10, 13, 26480, 930), (10, 15, 29808, 931), (10, 17, 29744, 932), (10, 19, 29745, 933), (10, 21, 29746, 934), (10, 23, 29488, 935), (10, 25, 29489, 936), (10, 27, 24880, 937), (10, 29, 24881, 938), (10, 31, 24882, 939), (10, 33, 24883, 940), (10, 35, 24884, 941), (10, 37, 24885, 942), (10, 39, 24886, 943), (10, 41, 24887, 944), (10, 43, 29490, 945), (10, 45, 29491, 946), (10, 47, 29492, 947), (10, 49, 29493, 948), (10, 51, 29494, 949), (10, 53, 29495, 950), (10, 55, 29496, 951), (10, 57, 29497, 952), (10, 59, 7549232, 953), (10, 61, 7549233, 954), (10, 63, 29747, 955), (10, 65, 29748, 956), (10, 67, 29749, 957), (10, 69, 29750, 958), (10, 71, 26224, 959), (10, 79, 6382692, 960), (10, 81, 7566690, 961), (10, 83, 7564396, 962), (10, 85, 7564404, 963), (10, 87, 1936487541, 964), (10, 89, 7892850, 965), (10, 91, 7565932, 966), (10, 93, 7565921, 967), (10, 95, 28530, 968), (10, 97, 6385252, 969), (10, 99, 7173484, 970), (10, 101, 1836412008, 971), (10, 103, 120351097385845, 972), (10, 105, 470121474165, 973), (10, 107, 6580598, 974), (10, 109, 1684633205, 975), (10, 111, 7497069, 976), (10, 113, 1919249781, 977), (10, 115, 1633969257, 978), (10, 117, 1936487529, 979), (10, 119, 495740807541, 980), (10, 121, 2020569705, 981), (10, 123, 7303785, 982), (10, 125, 1634624617, 983), (10, 127, 1936485481, 984), (10, 129, 1936878697, 985), (10, 131, 1936875881, 986), (10, 133, 27746, 987), (10, 135, 27752, 988), (10, 137, 27767, 989), (10, 139, 7103093, 990), (10, 141, 7104629, 991), (10, 143, 29538, 992), (10, 145, 29544, 993), (10, 147, 29559, 994), (10, 149, 6448497, 995), (10, 151, 6450789, 996), (10, 153, 6450292, 997), (10, 155, 6448997, 998), (10, 157, 1651274869, 999), (10, 159, 1650943349, 1000), (10, 161, 6449012, 1001), (10, 163, 6450277, 1002), (10, 165, 1650947189, 1003), (10, 167, 1651271029, 1004), (10, 169, 1650815354, 1005), (10, 171, 1651402106, 1006), (10, 173, 1651274874, 1007), (10, 175, 1650943354, 1008), (10, 177, 1650947194, 1009), (10, 179, 1651271034, 1010), (10, 181, 7107945, 1011), (10, 183, 418581672035, 1012), (10, 185, 6971756, 1013), (10, 187, 1784769650, 1014), (10, 189, 439788397413, 1015), (10, 191, 435459026028, 1016), (10, 193, 111473500447083, 1017), (10, 195, 7237488, 1018), (10, 197, 7497076, 1019), (10, 199, 28022, 1020), (10, 201, 7237492, 1021), (10, 203, 7234919, 1022), (10, 205, 1936028026, 1023), (10, 207, 1936614778, 1024), (10, 209, 1936487546, 1025), (10, 211, 1936159866, 1026), (10, 213, 106, 1027), (10, 215, 1667329132, 1028), (10, 217, 27250, 1029), (10, 219, 27745, 1030), (10, 221, 27753, 1031), (10, 223, 199521302644, 1032), (10, 225, 199252604001, 1033), (10, 227, 199220622437, 1034), (10, 229, 199319710822, 1035), (10, 231, 199572288100, 1036), (10, 233, 50996082600297, 1037), (10, 235, 50996082600314, 1038), (10, 237, 51073341547365, 1039), (10, 239, 50995965552494, 1040), (10, 241, 778400117, 1041), (10, 243, 51021735748204, 1042), (10, 460, 26729, 1373), (10, 462, 27759, 1374), (10, 567, 495873782388, 1443)]
def ab_pG : List (Nat × Nat × Nat × Nat × Nat) := [(7, 38, 1, 1, 638), (4, 179, 500, 2, 721), (4, 222, 439, 0, 817), (4, 231, 440, 0, 825), (4, 285, 412, 0, 869), (4, 288, 448, 0, 866), (7, 1053, 501, 3, 654)]
def ab_pT : List (Nat × Nat × Nat × Nat) := [(4, 158, 3, 695), (2, 67, 0, 583), (2, 176, 1, 625), (2, 182, 2, 681), (3, 79, 4, 771), (3, 85, 5, 773), (4, 229, 6, 824), (4, 234, 7, 827)]
def ab_pF2 : List (Nat × Nat × Nat × Nat) := [(4, 109, 4, 1469), (4, 117, 5, 1470), (7, 9, 0, 1466), (7, 15, 1, 1467), (4, 183, 2, 1468), (4, 235, 3, 1471)]
abbrev ab_I : Type := Nat × Instr × Nat × Nat × Nat
/-- an instruction's row: it is decoded so, its length and target are right, its pool entry stands in the pools -/
def ab_eok (o : Nat) (cc : ByteArray) (q : ab_I) : Bool := decide (decode cc q.1 = .ok (q.2.1, q.2.2.1)) && (q.2.2.1 == ab_len q.2.1 || ab_len q.2.1 == 0) && ab_tok q.2.1 q.1 q.2.2.2.1 && (match q.2.1 with
  | .getfield i => ab_pf.any (fun z => z.1 == o && z.2.1 == i && z.2.2.1 == q.2.2.2.1 && z.2.2.2.1 == q.2.2.2.2) || (q.2.2.2.1 == 100 && ab_pF2.any (fun z => z.1 == o && z.2.1 == i && z.2.2.1 == q.2.2.2.2))
  | .putfield i => ab_pf.any (fun z => z.1 == o && z.2.1 == i && z.2.2.1 == q.2.2.2.1 && z.2.2.2.1 == q.2.2.2.2)
  | .invokevirtual i => ab_pV.any (fun z => z.1 == o && z.2.1 == i && z.2.2.1 == q.2.2.2.1)
  | .invokestatic i => ab_pS.any (fun z => z.1 == o && z.2.1 == i && z.2.2.1 == q.2.2.2.1)
  | .invokespecial i => ab_pI.any (fun z => z.1 == o && z.2.1 == i && z.2.2.1 == q.2.2.2.1)
  | .new i => ab_pN.any (fun z => z.1 == o && z.2.1 == i && z.2.2.1 == q.2.2.2.1)
  | .ldc i => (q.2.2.2.2 == 0 && ab_pK.any (fun z => z.1 == o && z.2.1 == i && z.2.2.1 == q.2.2.2.1)) || (q.2.2.2.2 == 1 && ab_pT.any (fun z => z.1 == o && z.2.1 == i && z.2.2.1 == q.2.2.2.1))
  | .ldc_w i => q.2.2.2.2 == 0 && ab_pK.any (fun z => z.1 == o && z.2.1 == i && z.2.2.1 == q.2.2.2.1)
  | .ldc2_w i => ab_pL.any (fun z => z.1 == o && z.2.1 == i && z.2.2.1 == q.2.2.2.1)
  | .getstatic i => ab_pG.any (fun z => z.1 == o && z.2.1 == i && z.2.2.1 == q.2.2.2.1 && ((z.2.2.2.1 == 1) == (q.2.2.2.2 == 1)) && ((z.2.2.2.1 == 3) == (q.2.2.2.2 == 2)))
  | _ => true)
/-- a method: own class, name, bytes, locals, what it returns, how many parameters, its code word's place -/
abbrev ab_M : Type := Nat × MethodName × ByteArray × Nat × Option FieldType × Nat × Nat
def ab_hok (q : ab_M) : Bool := decide (lw_tbl[q.2.2.2.2.2.2]? = some (.code q.2.1 q.2.2.1 q.2.2.2.1 q.2.2.2.2.1)) && decide (ab_own[q.1]? = some q.2.1.cls) && Jvm.plainName q.2.1.cls && decide ((parseMethodDescriptor q.2.1.desc).map (fun d => d.parameters.length) = some q.2.2.2.2.2.1) && decide (q.2.1.cls ≠ "java/lang/invoke/MethodHandle" ∧ q.2.1.cls ≠ "java/lang/invoke/VarHandle") && decide (q.2.2.2.1 ≤ 20)
def ab_mok (q : ab_M × List ab_I) : Bool := ab_hok q.1 && q.2.all (ab_eok q.1.1 q.1.2.2.1)
