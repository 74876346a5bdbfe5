/-! ===== what the tables say of the program: infos of the methods, and checks that a program decides ===== -/
/-- a method: name, bytes, locals, return type, parameters, kind (0 static, 1 virtual, 2 a constructor) -/
abbrev KI : Type := MethodName × ByteArray × Nat × Option FieldType × Nat × Nat
def Wd : List Cond := lw_tbl.filter goodWord
def inW (w : Nat) (x : Cond) : Bool := decide (lw_tbl[w]? = some x) && goodWord x
theorem inW_mem {w : Nat} {x : Cond} (h : inW w x = true) : x ∈ Wd := by
  obtain ⟨h1, h2⟩ := Bool.and_eq_true_iff.mp h
  exact List.mem_filter.mpr ⟨List.mem_of_getElem? (of_decide_eq_true h1), h2⟩
def wsIn : List Cond → List Nat → Bool
  | [], [] => true
  | x :: r, w :: ws => inW w x && wsIn r ws
  | _, _ => false
theorem wsIn_mem : ∀ {xs : List Cond} {ws : List Nat}, wsIn xs ws = true → ∀ x ∈ xs, x ∈ Wd
  | [], _, _, _, hx => by cases hx
  | x :: r, [], h, _, _ => by simp [wsIn] at h
  | x :: r, w :: ws, h, z, hz => by
    obtain ⟨h1, h2⟩ := Bool.and_eq_true_iff.mp h
    rcases List.mem_cons.mp hz with rfl | hz
    · exact inW_mem h1
    · exact wsIn_mem h2 z hz

def kinfo_0 : List KI := [(⟨"DriftSea", "<init>", "()V"⟩, prog_1_method_1_code, 2, (Option.none : Option Jvm.ClassFile.FieldType), 0, 2),
  (⟨"DriftSea$Tape", "<init>", "()V"⟩, prog_10_method_1_code, 1, (Option.none : Option Jvm.ClassFile.FieldType), 0, 2),
  (⟨"DriftSea$Sea", "<init>", "()V"⟩, prog_8_method_1_code, 1, (Option.none : Option Jvm.ClassFile.FieldType), 0, 2),
  (⟨"DriftSea$Rule", "<init>", "()V"⟩, prog_7_method_1_code, 1, (Option.none : Option Jvm.ClassFile.FieldType), 0, 2),
  (⟨"DriftSea$State", "<init>", "()V"⟩, prog_9_method_1_code, 1, (Option.none : Option Jvm.ClassFile.FieldType), 0, 2),
  (⟨"DriftSea$Past", "<init>", "()V"⟩, prog_6_method_1_code, 2, (Option.none : Option Jvm.ClassFile.FieldType), 0, 2),
  (⟨"DriftSea$Weather", "<init>", "()V"⟩, prog_12_method_1_code, 1, (Option.none : Option Jvm.ClassFile.FieldType), 0, 2),
  (⟨"DriftSea$Trade", "<init>", "()V"⟩, prog_11_method_1_code, 1, (Option.none : Option Jvm.ClassFile.FieldType), 0, 2),
  (⟨"DriftSea$Course", "<init>", "(LDriftSea$Sea;)V"⟩, prog_3_method_1_code, 2, (Option.none : Option Jvm.ClassFile.FieldType), 1, 2),
  (⟨"DriftSea$Forecast", "<init>", "(LDriftSea$Sea;LDriftSea$Course;LDriftSea$State;)V"⟩, prog_5_method_1_code, 4, (Option.none : Option Jvm.ClassFile.FieldType), 3, 2),
  (⟨"DriftSea$Deals", "<init>", "(LDriftSea$Sea;LDriftSea$Course;LDriftSea$State;)V"⟩, prog_4_method_1_code, 4, (Option.none : Option Jvm.ClassFile.FieldType), 3, 2),
  (⟨"DriftSea$Charts", "<init>", "(LDriftSea$Sea;LDriftSea$Course;LDriftSea$State;)V"⟩, prog_2_method_1_code, 4, (Option.none : Option Jvm.ClassFile.FieldType), 3, 2),
  (⟨"DriftSea", "feed", "(IIIII)I"⟩, prog_1_method_2_code, 7, (Option.some Jvm.ClassFile.FieldType.int), 5, 1),
  (⟨"DriftSea", "bytesIn", "(I)I"⟩, prog_1_method_3_code, 3, (Option.some Jvm.ClassFile.FieldType.int), 1, 0),
  (⟨"DriftSea$Tape", "length", "()I"⟩, prog_10_method_2_code, 1, (Option.some Jvm.ClassFile.FieldType.int), 0, 1),
  (⟨"DriftSea$Tape", "add", "(I)V"⟩, prog_10_method_4_code, 4, (Option.none : Option Jvm.ClassFile.FieldType), 1, 1),
  (⟨"DriftSea", "end", "(I)Z"⟩, prog_1_method_4_code, 2, (Option.some Jvm.ClassFile.FieldType.boolean), 1, 1),
  (⟨"DriftSea", "isWithin", "(III)Z"⟩, prog_1_method_52_code, 3, (Option.some Jvm.ClassFile.FieldType.boolean), 3, 0),
  (⟨"DriftSea$Tape", "cut", "(I)V"⟩, prog_10_method_3_code, 2, (Option.none : Option Jvm.ClassFile.FieldType), 1, 1),
  (⟨"DriftSea", "fault", "(I)I"⟩, prog_1_method_5_code, 2, (Option.some Jvm.ClassFile.FieldType.int), 1, 1),
  (⟨"DriftSea$Sea", "read", "(LDriftSea$Tape;)Z"⟩, prog_8_method_10_code, 3, (Option.some Jvm.ClassFile.FieldType.boolean), 1, 1),
  (⟨"DriftSea$Sea", "fillRow", "(II)V"⟩, prog_8_method_13_code, 3, (Option.none : Option Jvm.ClassFile.FieldType), 2, 1),
  (⟨"DriftSea$Tape", "rewind", "()V"⟩, prog_10_method_5_code, 1, (Option.none : Option Jvm.ClassFile.FieldType), 0, 1),
  (⟨"DriftSea$Sea", "readClause", "(LDriftSea$Tape;)Z"⟩, prog_8_method_11_code, 7, (Option.some Jvm.ClassFile.FieldType.boolean), 1, 1),
  (⟨"DriftSea$Tape", "look", "()I"⟩, prog_10_method_7_code, 1, (Option.some Jvm.ClassFile.FieldType.int), 0, 1),
  (⟨"DriftSea$Tape", "pass", "()V"⟩, prog_10_method_9_code, 1, (Option.none : Option Jvm.ClassFile.FieldType), 0, 1),
  (⟨"DriftSea$Sea", "itemOf", "(II)I"⟩, prog_8_method_14_code, 3, (Option.some Jvm.ClassFile.FieldType.int), 2, 0),
  (⟨"DriftSea$Sea", "readItem", "(LDriftSea$Tape;II)Z"⟩, prog_8_method_12_code, 5, (Option.some Jvm.ClassFile.FieldType.boolean), 3, 1),
  (⟨"DriftSea$Tape", "readNumber", "(I)I"⟩, prog_10_method_13_code, 4, (Option.some Jvm.ClassFile.FieldType.int), 1, 1),
  (⟨"DriftSea$Tape", "isDigitHere", "()Z"⟩, prog_10_method_14_code, 1, (Option.some Jvm.ClassFile.FieldType.boolean), 0, 1),
  (⟨"DriftSea$Tape", "stepBack", "()V"⟩, prog_10_method_11_code, 1, (Option.none : Option Jvm.ClassFile.FieldType), 0, 1),
  (⟨"DriftSea$Tape", "isOver", "()Z"⟩, prog_10_method_8_code, 1, (Option.some Jvm.ClassFile.FieldType.boolean), 0, 1),
  (⟨"DriftSea$Sea", "isWhole", "()Z"⟩, prog_8_method_15_code, 3, (Option.some Jvm.ClassFile.FieldType.boolean), 0, 1),
  (⟨"DriftSea$Sea", "isles", "()I"⟩, prog_8_method_2_code, 1, (Option.some Jvm.ClassFile.FieldType.int), 0, 1),
  (⟨"DriftSea$Sea", "ties", "()I"⟩, prog_8_method_3_code, 1, (Option.some Jvm.ClassFile.FieldType.int), 0, 1),
  (⟨"DriftSea$Sea", "ofTie", "(II)I"⟩, prog_8_method_7_code, 3, (Option.some Jvm.ClassFile.FieldType.int), 2, 1),
  (⟨"DriftSea$Sea", "areToldTwo", "(II)Z"⟩, prog_8_method_16_code, 3, (Option.some Jvm.ClassFile.FieldType.boolean), 2, 1),
  (⟨"DriftSea$Sea", "bridges", "()I"⟩, prog_8_method_4_code, 1, (Option.some Jvm.ClassFile.FieldType.int), 0, 1),
  (⟨"DriftSea$Sea", "ofBridge", "(II)I"⟩, prog_8_method_8_code, 3, (Option.some Jvm.ClassFile.FieldType.int), 2, 1),
  (⟨"DriftSea$Tape", "takes", "(I)Z"⟩, prog_10_method_10_code, 2, (Option.some Jvm.ClassFile.FieldType.boolean), 1, 1)]
def kinfo_1 : List KI := [(⟨"DriftSea$Tape", "place", "()I"⟩, prog_10_method_6_code, 1, (Option.some Jvm.ClassFile.FieldType.int), 0, 1),
  (⟨"DriftSea$Rule", "read", "(LDriftSea$Tape;)Z"⟩, prog_7_method_3_code, 3, (Option.some Jvm.ClassFile.FieldType.boolean), 1, 1),
  (⟨"DriftSea$Rule", "readClause", "(LDriftSea$Tape;)Z"⟩, prog_7_method_4_code, 4, (Option.some Jvm.ClassFile.FieldType.boolean), 1, 1),
  (⟨"DriftSea$Rule", "readSum", "(LDriftSea$Tape;I)Z"⟩, prog_7_method_9_code, 5, (Option.some Jvm.ClassFile.FieldType.boolean), 2, 1),
  (⟨"DriftSea$Rule", "readTerm", "(LDriftSea$Tape;I)Z"⟩, prog_7_method_10_code, 5, (Option.some Jvm.ClassFile.FieldType.boolean), 2, 1),
  (⟨"DriftSea$Rule", "readAtom", "(LDriftSea$Tape;I)Z"⟩, prog_7_method_11_code, 5, (Option.some Jvm.ClassFile.FieldType.boolean), 2, 1),
  (⟨"DriftSea$Tape", "isAtDigit", "()Z"⟩, prog_10_method_12_code, 1, (Option.some Jvm.ClassFile.FieldType.boolean), 0, 1),
  (⟨"DriftSea$Rule", "put", "(I)V"⟩, prog_7_method_14_code, 2, (Option.none : Option Jvm.ClassFile.FieldType), 1, 1),
  (⟨"DriftSea$Rule", "readBracket", "(LDriftSea$Tape;I)Z"⟩, prog_7_method_12_code, 3, (Option.some Jvm.ClassFile.FieldType.boolean), 2, 1),
  (⟨"DriftSea$Rule", "isComparison", "(I)Z"⟩, prog_7_method_13_code, 1, (Option.some Jvm.ClassFile.FieldType.boolean), 1, 0),
  (⟨"DriftSea$Rule", "readCondition", "(LDriftSea$Tape;IZ)Z"⟩, prog_7_method_5_code, 5, (Option.some Jvm.ClassFile.FieldType.boolean), 3, 1),
  (⟨"DriftSea$Rule", "readTruth", "(LDriftSea$Tape;IZ)Z"⟩, prog_7_method_6_code, 5, (Option.some Jvm.ClassFile.FieldType.boolean), 3, 1),
  (⟨"DriftSea$Rule", "readUnit", "(LDriftSea$Tape;IZ)Z"⟩, prog_7_method_7_code, 6, (Option.some Jvm.ClassFile.FieldType.boolean), 3, 1),
  (⟨"DriftSea$Rule", "readNested", "(LDriftSea$Tape;II)Z"⟩, prog_7_method_8_code, 4, (Option.some Jvm.ClassFile.FieldType.boolean), 3, 1),
  (⟨"DriftSea", "text", "(I)I"⟩, prog_1_method_6_code, 2, (Option.some Jvm.ClassFile.FieldType.int), 1, 1),
  (⟨"DriftSea", "beginSea", "()I"⟩, prog_1_method_7_code, 1, (Option.some Jvm.ClassFile.FieldType.int), 0, 1),
  (⟨"DriftSea$Sea", "copy", "(LDriftSea$Sea;)V"⟩, prog_8_method_9_code, 2, (Option.none : Option Jvm.ClassFile.FieldType), 1, 1),
  (⟨"DriftSea$State", "begin", "(LDriftSea$Sea;)V"⟩, prog_9_method_2_code, 4, (Option.none : Option Jvm.ClassFile.FieldType), 1, 1),
  (⟨"DriftSea$Sea", "ofIsle", "(II)I"⟩, prog_8_method_6_code, 3, (Option.some Jvm.ClassFile.FieldType.int), 2, 1),
  (⟨"DriftSea$Past", "clear", "()V"⟩, prog_6_method_4_code, 1, (Option.none : Option Jvm.ClassFile.FieldType), 0, 1),
  (⟨"DriftSea$Past", "forgetStates", "()V"⟩, prog_6_method_5_code, 1, (Option.none : Option Jvm.ClassFile.FieldType), 0, 1),
  (⟨"DriftSea$Charts", "clear", "()V"⟩, prog_2_method_3_code, 1, (Option.none : Option Jvm.ClassFile.FieldType), 0, 1),
  (⟨"DriftSea", "addRule", "()I"⟩, prog_1_method_8_code, 1, (Option.some Jvm.ClassFile.FieldType.int), 0, 1),
  (⟨"DriftSea$Rule", "copy", "(LDriftSea$Rule;)V"⟩, prog_7_method_2_code, 2, (Option.none : Option Jvm.ClassFile.FieldType), 1, 1),
  (⟨"DriftSea", "tie", "(II)I"⟩, prog_1_method_10_code, 3, (Option.some Jvm.ClassFile.FieldType.int), 2, 1),
  (⟨"DriftSea", "isTie", "(I)Z"⟩, prog_1_method_56_code, 2, (Option.some Jvm.ClassFile.FieldType.boolean), 1, 1),
  (⟨"DriftSea$State", "kindOf", "(I)I"⟩, prog_9_method_11_code, 2, (Option.some Jvm.ClassFile.FieldType.int), 1, 1),
  (⟨"DriftSea$Course", "pullOfTold", "(LDriftSea$State;I)I"⟩, prog_3_method_12_code, 3, (Option.some Jvm.ClassFile.FieldType.int), 2, 1),
  (⟨"DriftSea$Course", "pullOf", "(LDriftSea$State;IIII)I"⟩, prog_3_method_14_code, 7, (Option.some Jvm.ClassFile.FieldType.int), 5, 1),
  (⟨"DriftSea$State", "apart", "(II)I"⟩, prog_9_method_21_code, 5, (Option.some Jvm.ClassFile.FieldType.int), 2, 1),
  (⟨"DriftSea$State", "massOf", "(I)I"⟩, prog_9_method_9_code, 2, (Option.some Jvm.ClassFile.FieldType.int), 1, 1),
  (⟨"DriftSea$State", "season", "()I"⟩, prog_9_method_14_code, 1, (Option.some Jvm.ClassFile.FieldType.int), 0, 1),
  (⟨"DriftSea$Rule", "worth", "([I)I"⟩, prog_7_method_15_code, 8, (Option.some Jvm.ClassFile.FieldType.int), 1, 1),
  (⟨"DriftSea$Rule", "join", "(IJJ)J"⟩, prog_7_method_16_code, 5, (Option.some Jvm.ClassFile.FieldType.long), 3, 0),
  (⟨"DriftSea", "held", "(II)I"⟩, prog_1_method_53_code, 2, (Option.some Jvm.ClassFile.FieldType.int), 2, 0),
  (⟨"DriftSea", "bridge", "(II)I"⟩, prog_1_method_11_code, 3, (Option.some Jvm.ClassFile.FieldType.int), 2, 1),
  (⟨"DriftSea", "isBridge", "(I)Z"⟩, prog_1_method_57_code, 2, (Option.some Jvm.ClassFile.FieldType.boolean), 1, 1),
  (⟨"DriftSea$State", "stands", "(I)Z"⟩, prog_9_method_13_code, 2, (Option.some Jvm.ClassFile.FieldType.boolean), 1, 1),
  (⟨"DriftSea", "far", "(II)I"⟩, prog_1_method_12_code, 3, (Option.some Jvm.ClassFile.FieldType.int), 2, 1),
  (⟨"DriftSea", "isIsle", "(I)Z"⟩, prog_1_method_55_code, 2, (Option.some Jvm.ClassFile.FieldType.boolean), 1, 1)]
def kinfo_2 : List KI := [(⟨"DriftSea", "count", "(I)I"⟩, prog_1_method_13_code, 2, (Option.some Jvm.ClassFile.FieldType.int), 1, 1),
  (⟨"DriftSea$State", "heads", "()I"⟩, prog_9_method_22_code, 3, (Option.some Jvm.ClassFile.FieldType.int), 0, 1),
  (⟨"DriftSea$State", "isHead", "(I)Z"⟩, prog_9_method_6_code, 2, (Option.some Jvm.ClassFile.FieldType.boolean), 1, 1),
  (⟨"DriftSea", "ofWater", "(I)I"⟩, prog_1_method_14_code, 2, (Option.some Jvm.ClassFile.FieldType.int), 1, 1),
  (⟨"DriftSea", "hasSea", "()Z"⟩, prog_1_method_54_code, 1, (Option.some Jvm.ClassFile.FieldType.boolean), 0, 1),
  (⟨"DriftSea$Sea", "ofWater", "(I)I"⟩, prog_8_method_5_code, 2, (Option.some Jvm.ClassFile.FieldType.int), 1, 1),
  (⟨"DriftSea$Charts", "many", "()I"⟩, prog_2_method_2_code, 1, (Option.some Jvm.ClassFile.FieldType.int), 0, 1),
  (⟨"DriftSea$Past", "undoable", "()I"⟩, prog_6_method_2_code, 1, (Option.some Jvm.ClassFile.FieldType.int), 0, 1),
  (⟨"DriftSea$Past", "noted", "()I"⟩, prog_6_method_3_code, 1, (Option.some Jvm.ClassFile.FieldType.int), 0, 1),
  (⟨"DriftSea", "pull", "(I)Z"⟩, prog_1_method_15_code, 2, (Option.some Jvm.ClassFile.FieldType.boolean), 1, 1),
  (⟨"DriftSea$Course", "holdBy", "(LDriftSea$Rule;)V"⟩, prog_3_method_2_code, 2, (Option.none : Option Jvm.ClassFile.FieldType), 1, 1),
  (⟨"DriftSea", "turn", "(I)Z"⟩, prog_1_method_16_code, 2, (Option.some Jvm.ClassFile.FieldType.boolean), 1, 1),
  (⟨"DriftSea$State", "turnKind", "(I)V"⟩, prog_9_method_15_code, 2, (Option.none : Option Jvm.ClassFile.FieldType), 1, 1),
  (⟨"DriftSea", "price", "(II)Z"⟩, prog_1_method_17_code, 3, (Option.some Jvm.ClassFile.FieldType.boolean), 2, 1),
  (⟨"DriftSea$State", "priceOf", "(I)I"⟩, prog_9_method_12_code, 2, (Option.some Jvm.ClassFile.FieldType.int), 1, 1),
  (⟨"DriftSea$State", "tellPrice", "(II)V"⟩, prog_9_method_16_code, 3, (Option.none : Option Jvm.ClassFile.FieldType), 2, 1),
  (⟨"DriftSea", "chance", "(II)Z"⟩, prog_1_method_18_code, 3, (Option.some Jvm.ClassFile.FieldType.boolean), 2, 1),
  (⟨"DriftSea$Weather", "tell", "(II)Z"⟩, prog_12_method_2_code, 3, (Option.some Jvm.ClassFile.FieldType.boolean), 2, 1),
  (⟨"DriftSea", "image", "()I"⟩, prog_1_method_19_code, 1, (Option.some Jvm.ClassFile.FieldType.int), 0, 1),
  (⟨"DriftSea$State", "copy", "(LDriftSea$State;)V"⟩, prog_9_method_3_code, 2, (Option.none : Option Jvm.ClassFile.FieldType), 1, 1),
  (⟨"DriftSea", "back", "()I"⟩, prog_1_method_20_code, 1, (Option.some Jvm.ClassFile.FieldType.int), 0, 1),
  (⟨"DriftSea", "go", "(I)I"⟩, prog_1_method_21_code, 3, (Option.some Jvm.ClassFile.FieldType.int), 1, 1),
  (⟨"DriftSea$Past", "keep", "(LDriftSea$State;)V"⟩, prog_6_method_6_code, 2, (Option.none : Option Jvm.ClassFile.FieldType), 1, 1),
  (⟨"DriftSea", "passSeason", "()V"⟩, prog_1_method_23_code, 1, (Option.none : Option Jvm.ClassFile.FieldType), 0, 1),
  (⟨"DriftSea$Course", "drawByTold", "()V"⟩, prog_3_method_3_code, 1, (Option.none : Option Jvm.ClassFile.FieldType), 0, 1),
  (⟨"DriftSea$Course", "pass", "(LDriftSea$State;)V"⟩, prog_3_method_10_code, 3, (Option.none : Option Jvm.ClassFile.FieldType), 1, 1),
  (⟨"DriftSea$Course", "drawByTies", "(LDriftSea$State;)V"⟩, prog_3_method_15_code, 6, (Option.none : Option Jvm.ClassFile.FieldType), 1, 1),
  (⟨"DriftSea$Course", "drawTwo", "(LDriftSea$State;III)V"⟩, prog_3_method_18_code, 10, (Option.none : Option Jvm.ClassFile.FieldType), 4, 1),
  (⟨"DriftSea$State", "xOf", "(I)I"⟩, prog_9_method_7_code, 2, (Option.some Jvm.ClassFile.FieldType.int), 1, 1),
  (⟨"DriftSea$State", "yOf", "(I)I"⟩, prog_9_method_8_code, 2, (Option.some Jvm.ClassFile.FieldType.int), 1, 1),
  (⟨"DriftSea$State", "headOf", "(I)I"⟩, prog_9_method_5_code, 2, (Option.some Jvm.ClassFile.FieldType.int), 1, 1),
  (⟨"DriftSea$Course", "doesTradePull", "()Z"⟩, prog_3_method_16_code, 1, (Option.some Jvm.ClassFile.FieldType.boolean), 0, 1),
  (⟨"DriftSea$Trade", "run", "(LDriftSea$Sea;LDriftSea$State;)V"⟩, prog_11_method_2_code, 4, (Option.none : Option Jvm.ClassFile.FieldType), 2, 1),
  (⟨"DriftSea$Trade", "buyAll", "(LDriftSea$Sea;LDriftSea$State;I)V"⟩, prog_11_method_3_code, 7, (Option.none : Option Jvm.ClassFile.FieldType), 3, 1),
  (⟨"DriftSea$Trade", "cheapest", "(LDriftSea$Sea;LDriftSea$State;I)I"⟩, prog_11_method_4_code, 7, (Option.some Jvm.ClassFile.FieldType.int), 3, 1),
  (⟨"DriftSea$Course", "drawByTrade", "(LDriftSea$State;)V"⟩, prog_3_method_17_code, 4, (Option.none : Option Jvm.ClassFile.FieldType), 1, 1),
  (⟨"DriftSea$Trade", "bought", "(II)I"⟩, prog_11_method_5_code, 3, (Option.some Jvm.ClassFile.FieldType.int), 2, 1),
  (⟨"DriftSea$Course", "moveAll", "(LDriftSea$State;)V"⟩, prog_3_method_19_code, 4, (Option.none : Option Jvm.ClassFile.FieldType), 1, 1),
  (⟨"DriftSea$State", "putAt", "(III)V"⟩, prog_9_method_19_code, 4, (Option.none : Option Jvm.ClassFile.FieldType), 3, 1),
  (⟨"DriftSea$Course", "joinFirstPair", "(LDriftSea$State;)Z"⟩, prog_3_method_20_code, 5, (Option.some Jvm.ClassFile.FieldType.boolean), 1, 1)]
def kinfo_3 : List KI := [(⟨"DriftSea$Course", "joinTwo", "(LDriftSea$State;II)V"⟩, prog_3_method_21_code, 6, (Option.none : Option Jvm.ClassFile.FieldType), 3, 1),
  (⟨"DriftSea$State", "becomeOne", "(III)V"⟩, prog_9_method_20_code, 5, (Option.none : Option Jvm.ClassFile.FieldType), 3, 1),
  (⟨"DriftSea$Course", "snapBridges", "(LDriftSea$State;)V"⟩, prog_3_method_22_code, 4, (Option.none : Option Jvm.ClassFile.FieldType), 1, 1),
  (⟨"DriftSea$State", "breakBridge", "(I)V"⟩, prog_9_method_17_code, 2, (Option.none : Option Jvm.ClassFile.FieldType), 1, 1),
  (⟨"DriftSea$State", "nextSeason", "()V"⟩, prog_9_method_18_code, 1, (Option.none : Option Jvm.ClassFile.FieldType), 0, 1),
  (⟨"DriftSea$Course", "parts", "()I"⟩, prog_3_method_6_code, 1, (Option.some Jvm.ClassFile.FieldType.int), 0, 1),
  (⟨"DriftSea$Course", "snapped", "()I"⟩, prog_3_method_7_code, 1, (Option.some Jvm.ClassFile.FieldType.int), 0, 1),
  (⟨"DriftSea$Course", "gone", "()I"⟩, prog_3_method_8_code, 1, (Option.some Jvm.ClassFile.FieldType.int), 0, 1),
  (⟨"DriftSea$Past", "putBy", "(III)V"⟩, prog_6_method_7_code, 4, (Option.none : Option Jvm.ClassFile.FieldType), 3, 1),
  (⟨"DriftSea", "years", "(IJ)I"⟩, prog_1_method_22_code, 5, (Option.some Jvm.ClassFile.FieldType.int), 2, 1),
  (⟨"DriftSea$Weather", "begin", "(J)V"⟩, prog_12_method_3_code, 3, (Option.none : Option Jvm.ClassFile.FieldType), 1, 1),
  (⟨"DriftSea$Weather", "strike", "(LDriftSea$State;I)V"⟩, prog_12_method_4_code, 3, (Option.none : Option Jvm.ClassFile.FieldType), 2, 1),
  (⟨"DriftSea$Weather", "draw", "(I)I"⟩, prog_12_method_6_code, 2, (Option.some Jvm.ClassFile.FieldType.int), 1, 1),
  (⟨"DriftSea$Weather", "toss", "(LDriftSea$State;)V"⟩, prog_12_method_5_code, 5, (Option.none : Option Jvm.ClassFile.FieldType), 1, 1),
  (⟨"DriftSea$State", "headByNumber", "(I)I"⟩, prog_9_method_23_code, 4, (Option.some Jvm.ClassFile.FieldType.int), 1, 1),
  (⟨"DriftSea", "undo", "()I"⟩, prog_1_method_24_code, 1, (Option.some Jvm.ClassFile.FieldType.int), 0, 1),
  (⟨"DriftSea$Past", "takeBack", "(LDriftSea$State;)Z"⟩, prog_6_method_8_code, 2, (Option.some Jvm.ClassFile.FieldType.boolean), 1, 1),
  (⟨"DriftSea$State", "copyButPrices", "(LDriftSea$State;)V"⟩, prog_9_method_4_code, 2, (Option.none : Option Jvm.ClassFile.FieldType), 1, 1),
  (⟨"DriftSea", "log", "(II)I"⟩, prog_1_method_25_code, 3, (Option.some Jvm.ClassFile.FieldType.int), 2, 1),
  (⟨"DriftSea$Past", "read", "(II)I"⟩, prog_6_method_9_code, 4, (Option.some Jvm.ClassFile.FieldType.int), 2, 1),
  (⟨"DriftSea", "led", "(III)I"⟩, prog_1_method_26_code, 4, (Option.some Jvm.ClassFile.FieldType.int), 3, 1),
  (⟨"DriftSea$Course", "ledByTold", "(LDriftSea$State;III)I"⟩, prog_3_method_13_code, 11, (Option.some Jvm.ClassFile.FieldType.int), 4, 1),
  (⟨"DriftSea", "drift", "(II)I"⟩, prog_1_method_27_code, 3, (Option.some Jvm.ClassFile.FieldType.int), 2, 1),
  (⟨"DriftSea$Course", "goesBy", "(LDriftSea$State;II)I"⟩, prog_3_method_11_code, 8, (Option.some Jvm.ClassFile.FieldType.int), 3, 1),
  (⟨"DriftSea", "buys", "(II)I"⟩, prog_1_method_28_code, 3, (Option.some Jvm.ClassFile.FieldType.int), 2, 1),
  (⟨"DriftSea", "areTwo", "(II)Z"⟩, prog_1_method_58_code, 3, (Option.some Jvm.ClassFile.FieldType.boolean), 2, 1),
  (⟨"DriftSea", "pays", "(I)I"⟩, prog_1_method_29_code, 2, (Option.some Jvm.ClassFile.FieldType.int), 1, 1),
  (⟨"DriftSea$Trade", "paidBy", "(I)I"⟩, prog_11_method_6_code, 2, (Option.some Jvm.ClassFile.FieldType.int), 1, 1),
  (⟨"DriftSea", "lacks", "(I)I"⟩, prog_1_method_30_code, 2, (Option.some Jvm.ClassFile.FieldType.int), 1, 1),
  (⟨"DriftSea$Trade", "lackOf", "(I)I"⟩, prog_11_method_7_code, 2, (Option.some Jvm.ClassFile.FieldType.int), 1, 1),
  (⟨"DriftSea", "monopoly", "(II)I"⟩, prog_1_method_31_code, 4, (Option.some Jvm.ClassFile.FieldType.int), 2, 1),
  (⟨"DriftSea$Trade", "mostSelling", "(LDriftSea$Sea;I)I"⟩, prog_11_method_9_code, 6, (Option.some Jvm.ClassFile.FieldType.int), 2, 1),
  (⟨"DriftSea$Trade", "soldBy", "(I)I"⟩, prog_11_method_8_code, 4, (Option.some Jvm.ClassFile.FieldType.int), 1, 1),
  (⟨"DriftSea", "undercut", "(II)I"⟩, prog_1_method_32_code, 3, (Option.some Jvm.ClassFile.FieldType.int), 2, 1),
  (⟨"DriftSea$Forecast", "leastCut", "(LDriftSea$Trade;II)I"⟩, prog_5_method_3_code, 6, (Option.some Jvm.ClassFile.FieldType.int), 3, 1),
  (⟨"DriftSea", "ahead", "(III)I"⟩, prog_1_method_33_code, 4, (Option.some Jvm.ClassFile.FieldType.int), 3, 1),
  (⟨"DriftSea$Forecast", "placeBehind", "(III)I"⟩, prog_5_method_4_code, 5, (Option.some Jvm.ClassFile.FieldType.int), 3, 1),
  (⟨"DriftSea$Forecast", "begin", "()V"⟩, prog_5_method_2_code, 1, (Option.none : Option Jvm.ClassFile.FieldType), 0, 1),
  (⟨"DriftSea", "rest", "(I)I"⟩, prog_1_method_34_code, 2, (Option.some Jvm.ClassFile.FieldType.int), 1, 1),
  (⟨"DriftSea$Forecast", "restsBehind", "(I)I"⟩, prog_5_method_5_code, 3, (Option.some Jvm.ClassFile.FieldType.int), 1, 1)]
def kinfo_4 : List KI := [(⟨"DriftSea$Course", "movedNothing", "()Z"⟩, prog_3_method_9_code, 1, (Option.some Jvm.ClassFile.FieldType.boolean), 0, 1),
  (⟨"DriftSea", "round", "(II)I"⟩, prog_1_method_35_code, 3, (Option.some Jvm.ClassFile.FieldType.int), 2, 1),
  (⟨"DriftSea$Forecast", "roundBehind", "(IZ)I"⟩, prog_5_method_6_code, 5, (Option.some Jvm.ClassFile.FieldType.int), 2, 1),
  (⟨"DriftSea$Forecast", "remember", "(I)V"⟩, prog_5_method_7_code, 4, (Option.none : Option Jvm.ClassFile.FieldType), 1, 1),
  (⟨"DriftSea$Forecast", "areAlike", "(II)Z"⟩, prog_5_method_8_code, 4, (Option.some Jvm.ClassFile.FieldType.boolean), 2, 1),
  (⟨"DriftSea", "one", "(III)I"⟩, prog_1_method_36_code, 4, (Option.some Jvm.ClassFile.FieldType.int), 3, 1),
  (⟨"DriftSea$Forecast", "oneBehind", "(III)I"⟩, prog_5_method_9_code, 5, (Option.some Jvm.ClassFile.FieldType.int), 3, 1),
  (⟨"DriftSea", "nearest", "(IIII)I"⟩, prog_1_method_37_code, 5, (Option.some Jvm.ClassFile.FieldType.int), 4, 1),
  (⟨"DriftSea$Forecast", "leastApart", "(IIIZ)I"⟩, prog_5_method_10_code, 8, (Option.some Jvm.ClassFile.FieldType.int), 4, 1),
  (⟨"DriftSea", "snap", "(I)I"⟩, prog_1_method_38_code, 2, (Option.some Jvm.ClassFile.FieldType.int), 1, 1),
  (⟨"DriftSea$Forecast", "snappedBehind", "(I)I"⟩, prog_5_method_11_code, 3, (Option.some Jvm.ClassFile.FieldType.int), 1, 1),
  (⟨"DriftSea", "sail", "(IIII)I"⟩, prog_1_method_39_code, 6, (Option.some Jvm.ClassFile.FieldType.int), 4, 1),
  (⟨"DriftSea$Forecast", "recordWay", "(II)V"⟩, prog_5_method_13_code, 4, (Option.none : Option Jvm.ClassFile.FieldType), 2, 1),
  (⟨"DriftSea$Forecast", "thereBehind", "(III)I"⟩, prog_5_method_14_code, 9, (Option.some Jvm.ClassFile.FieldType.int), 3, 1),
  (⟨"DriftSea$Forecast", "wasOvertaken", "()Z"⟩, prog_5_method_15_code, 1, (Option.some Jvm.ClassFile.FieldType.boolean), 0, 1),
  (⟨"DriftSea", "haste", "(III)I"⟩, prog_1_method_40_code, 4, (Option.some Jvm.ClassFile.FieldType.int), 3, 1),
  (⟨"DriftSea$Forecast", "leastSpeed", "(III)I"⟩, prog_5_method_16_code, 5, (Option.some Jvm.ClassFile.FieldType.int), 3, 1),
  (⟨"DriftSea", "treaty", "(IIII)I"⟩, prog_1_method_41_code, 6, (Option.some Jvm.ClassFile.FieldType.int), 4, 1),
  (⟨"DriftSea", "isPair", "(I)Z"⟩, prog_1_method_59_code, 2, (Option.some Jvm.ClassFile.FieldType.boolean), 1, 1),
  (⟨"DriftSea$Deals", "aim", "(IIIIII)V"⟩, prog_4_method_2_code, 7, (Option.none : Option Jvm.ClassFile.FieldType), 6, 1),
  (⟨"DriftSea$Deals", "tellPairs", "()V"⟩, prog_4_method_3_code, 3, (Option.none : Option Jvm.ClassFile.FieldType), 0, 1),
  (⟨"DriftSea$Deals", "bringsTogether", "()Z"⟩, prog_4_method_4_code, 2, (Option.some Jvm.ClassFile.FieldType.boolean), 0, 1),
  (⟨"DriftSea$Course", "addTie", "(IIII)V"⟩, prog_3_method_5_code, 5, (Option.none : Option Jvm.ClassFile.FieldType), 4, 1),
  (⟨"DriftSea$Deals", "pickedRow", "()I"⟩, prog_4_method_5_code, 3, (Option.some Jvm.ClassFile.FieldType.int), 0, 1),
  (⟨"DriftSea$Deals", "pickNext", "()Z"⟩, prog_4_method_6_code, 3, (Option.some Jvm.ClassFile.FieldType.boolean), 0, 1),
  (⟨"DriftSea$Deals", "pickFirst", "(I)Z"⟩, prog_4_method_7_code, 3, (Option.some Jvm.ClassFile.FieldType.boolean), 1, 1),
  (⟨"DriftSea", "bicker", "(IIIIII)I"⟩, prog_1_method_42_code, 7, (Option.some Jvm.ClassFile.FieldType.int), 6, 1),
  (⟨"DriftSea$Deals", "fewestDeals", "(Z)I"⟩, prog_4_method_8_code, 7, (Option.some Jvm.ClassFile.FieldType.int), 1, 1),
  (⟨"DriftSea$Deals", "dealsIn", "(I)I"⟩, prog_4_method_9_code, 3, (Option.some Jvm.ClassFile.FieldType.int), 1, 0),
  (⟨"DriftSea$Deals", "keepsBetween", "(II)Z"⟩, prog_4_method_11_code, 5, (Option.some Jvm.ClassFile.FieldType.boolean), 2, 1),
  (⟨"DriftSea$Deals", "asDigits", "(II)I"⟩, prog_4_method_10_code, 4, (Option.some Jvm.ClassFile.FieldType.int), 2, 0),
  (⟨"DriftSea", "chart", "(IIII)I"⟩, prog_1_method_43_code, 5, (Option.some Jvm.ClassFile.FieldType.int), 4, 1),
  (⟨"DriftSea$Charts", "add", "(IIII)Z"⟩, prog_2_method_4_code, 5, (Option.some Jvm.ClassFile.FieldType.boolean), 4, 1),
  (⟨"DriftSea", "fits", "(I)I"⟩, prog_1_method_44_code, 2, (Option.some Jvm.ClassFile.FieldType.int), 1, 1),
  (⟨"DriftSea$Charts", "fittingSet", "(I)I"⟩, prog_2_method_5_code, 4, (Option.some Jvm.ClassFile.FieldType.int), 1, 1),
  (⟨"DriftSea$Course", "drawBySet", "(I)V"⟩, prog_3_method_4_code, 2, (Option.none : Option Jvm.ClassFile.FieldType), 1, 1),
  (⟨"DriftSea$Charts", "areSo", "()Z"⟩, prog_2_method_7_code, 3, (Option.some Jvm.ClassFile.FieldType.boolean), 0, 1),
  (⟨"DriftSea$Charts", "areSoBehind", "(I)Z"⟩, prog_2_method_8_code, 3, (Option.some Jvm.ClassFile.FieldType.boolean), 1, 1),
  (⟨"DriftSea", "secret", "(I)I"⟩, prog_1_method_45_code, 2, (Option.some Jvm.ClassFile.FieldType.int), 1, 1),
  (⟨"DriftSea$Charts", "secretTie", "(I)I"⟩, prog_2_method_6_code, 8, (Option.some Jvm.ClassFile.FieldType.int), 1, 1)]
def kinfo_5 : List KI := [(⟨"DriftSea", "sees", "(II)I"⟩, prog_1_method_46_code, 3, (Option.some Jvm.ClassFile.FieldType.int), 2, 1),
  (⟨"DriftSea$State", "seenFrom", "(II)I"⟩, prog_9_method_24_code, 5, (Option.some Jvm.ClassFile.FieldType.int), 2, 1),
  (⟨"DriftSea", "everywhere", "(I)I"⟩, prog_1_method_47_code, 2, (Option.some Jvm.ClassFile.FieldType.int), 1, 1),
  (⟨"DriftSea$State", "seenByAll", "(I)I"⟩, prog_9_method_26_code, 4, (Option.some Jvm.ClassFile.FieldType.int), 1, 1),
  (⟨"DriftSea$State", "isSeenByAll", "(II)Z"⟩, prog_9_method_25_code, 4, (Option.some Jvm.ClassFile.FieldType.boolean), 2, 1),
  (⟨"DriftSea", "when", "(III)I"⟩, prog_1_method_48_code, 4, (Option.some Jvm.ClassFile.FieldType.int), 3, 1),
  (⟨"DriftSea$Forecast", "seenByAllBehind", "(III)I"⟩, prog_5_method_12_code, 5, (Option.some Jvm.ClassFile.FieldType.int), 3, 1),
  (⟨"DriftSea", "lands", "(II)I"⟩, prog_1_method_49_code, 3, (Option.some Jvm.ClassFile.FieldType.int), 2, 1),
  (⟨"DriftSea$State", "landCount", "(I)I"⟩, prog_9_method_28_code, 5, (Option.some Jvm.ClassFile.FieldType.int), 1, 1),
  (⟨"DriftSea$State", "landOf", "(II)I"⟩, prog_9_method_27_code, 6, (Option.some Jvm.ClassFile.FieldType.int), 2, 1),
  (⟨"DriftSea$State", "largestLand", "(I)I"⟩, prog_9_method_29_code, 4, (Option.some Jvm.ClassFile.FieldType.int), 1, 1),
  (⟨"DriftSea", "land", "(II)I"⟩, prog_1_method_50_code, 3, (Option.some Jvm.ClassFile.FieldType.int), 2, 1),
  (⟨"DriftSea", "wide", "(I)I"⟩, prog_1_method_51_code, 2, (Option.some Jvm.ClassFile.FieldType.int), 1, 1),
  (⟨"DriftSea$State", "widest", "(Z)I"⟩, prog_9_method_30_code, 6, (Option.some Jvm.ClassFile.FieldType.int), 1, 1),
  (⟨"DriftSea", "isle", "(II)I"⟩, prog_1_method_9_code, 3, (Option.some Jvm.ClassFile.FieldType.int), 2, 1),
  (⟨"DriftSea$State", "scarsOf", "(I)I"⟩, prog_9_method_10_code, 2, (Option.some Jvm.ClassFile.FieldType.int), 1, 1),
  (⟨"DriftSeaModel", "<init>", "()V"⟩, prog_14_method_3_code, 1, (Option.none : Option Jvm.ClassFile.FieldType), 0, 2),
  (⟨"DriftSeaModel", "thrown", "()I"⟩, prog_14_method_4_code, 1, (Option.some Jvm.ClassFile.FieldType.int), 0, 1),
  (⟨"DriftSeaModel", "feed", "(IIIII)I"⟩, prog_14_method_6_code, 9, (Option.some Jvm.ClassFile.FieldType.int), 5, 1),
  (⟨"DriftSeaModel", "byteOf", "(IIIIII)I"⟩, prog_14_method_5_code, 7, (Option.some Jvm.ClassFile.FieldType.int), 6, 0),
  (⟨"DriftSeaModel", "end", "(I)Z"⟩, prog_14_method_7_code, 2, (Option.some Jvm.ClassFile.FieldType.boolean), 1, 1),
  (⟨"DriftSeaModel", "fault", "(I)I"⟩, prog_14_method_44_code, 2, (Option.some Jvm.ClassFile.FieldType.int), 1, 1),
  (⟨"DriftSeaModel", "readSea", "()I"⟩, prog_14_method_43_code, 4, (Option.some Jvm.ClassFile.FieldType.int), 0, 1),
  (⟨"DriftSeaModel", "usual", "(II)I"⟩, prog_14_method_38_code, 2, (Option.some Jvm.ClassFile.FieldType.int), 2, 0),
  (⟨"DriftSeaModel", "look", "()I"⟩, prog_14_method_9_code, 1, (Option.some Jvm.ClassFile.FieldType.int), 0, 1),
  (⟨"DriftSeaModel", "here", "()I"⟩, prog_14_method_8_code, 1, (Option.some Jvm.ClassFile.FieldType.int), 0, 1),
  (⟨"DriftSeaModel", "clauseText", "(Z)V"⟩, prog_14_method_40_code, 3, (Option.none : Option Jvm.ClassFile.FieldType), 1, 1),
  (⟨"DriftSeaModel", "items", "(I[III)V"⟩, prog_14_method_39_code, 7, (Option.none : Option Jvm.ClassFile.FieldType), 4, 1),
  (⟨"DriftSeaModel", "itemOf", "(II)I"⟩, prog_14_method_35_code, 2, (Option.some Jvm.ClassFile.FieldType.int), 2, 0),
  (⟨"DriftSeaModel", "has", "(II)Z"⟩, prog_14_method_2_code, 2, (Option.some Jvm.ClassFile.FieldType.boolean), 2, 0),
  (⟨"DriftSeaModel", "lowest", "(II)I"⟩, prog_14_method_36_code, 2, (Option.some Jvm.ClassFile.FieldType.int), 2, 0),
  (⟨"DriftSeaModel", "highest", "(II)I"⟩, prog_14_method_37_code, 2, (Option.some Jvm.ClassFile.FieldType.int), 2, 0),
  (⟨"DriftSeaModel", "number", "(II)I"⟩, prog_14_method_34_code, 4, (Option.some Jvm.ClassFile.FieldType.int), 2, 1),
  (⟨"DriftSeaModel", "isDigit", "(I)Z"⟩, prog_14_method_11_code, 1, (Option.some Jvm.ClassFile.FieldType.boolean), 1, 0),
  (⟨"DriftSeaModel", "bad", "()V"⟩, prog_14_method_10_code, 1, (Option.none : Option Jvm.ClassFile.FieldType), 0, 1),
  (⟨"DriftSeaModel", "in", "(III)Z"⟩, prog_14_method_1_code, 3, (Option.some Jvm.ClassFile.FieldType.boolean), 3, 0),
  (⟨"DriftSeaModel", "isWhole", "()Z"⟩, prog_14_method_42_code, 3, (Option.some Jvm.ClassFile.FieldType.boolean), 0, 1),
  (⟨"DriftSeaModel", "areUnlike", "(II)Z"⟩, prog_14_method_41_code, 3, (Option.some Jvm.ClassFile.FieldType.boolean), 2, 1),
  (⟨"DriftSeaModel", "readLaw", "(I)I"⟩, prog_14_method_29_code, 2, (Option.some Jvm.ClassFile.FieldType.int), 1, 1),
  (⟨"DriftSeaModel", "open", "(I)V"⟩, prog_14_method_27_code, 2, (Option.none : Option Jvm.ClassFile.FieldType), 1, 1)]
def kinfo_6 : List KI := [(⟨"DriftSeaModel", "clause", "()V"⟩, prog_14_method_26_code, 3, (Option.none : Option Jvm.ClassFile.FieldType), 0, 1),
  (⟨"DriftSeaModel", "condition", "()V"⟩, prog_14_method_25_code, 1, (Option.none : Option Jvm.ClassFile.FieldType), 0, 1),
  (⟨"DriftSeaModel", "unit", "()V"⟩, prog_14_method_22_code, 2, (Option.none : Option Jvm.ClassFile.FieldType), 0, 1),
  (⟨"DriftSeaModel", "opens", "()V"⟩, prog_14_method_14_code, 1, (Option.none : Option Jvm.ClassFile.FieldType), 0, 1),
  (⟨"DriftSeaModel", "put", "(II)V"⟩, prog_14_method_12_code, 3, (Option.none : Option Jvm.ClassFile.FieldType), 2, 1),
  (⟨"DriftSeaModel", "closes", "(I)V"⟩, prog_14_method_15_code, 2, (Option.none : Option Jvm.ClassFile.FieldType), 1, 1),
  (⟨"DriftSeaModel", "sum", "()V"⟩, prog_14_method_19_code, 2, (Option.none : Option Jvm.ClassFile.FieldType), 0, 1),
  (⟨"DriftSeaModel", "term", "()V"⟩, prog_14_method_18_code, 2, (Option.none : Option Jvm.ClassFile.FieldType), 0, 1),
  (⟨"DriftSeaModel", "atom", "()V"⟩, prog_14_method_17_code, 2, (Option.none : Option Jvm.ClassFile.FieldType), 0, 1),
  (⟨"DriftSeaModel", "plainNumber", "()I"⟩, prog_14_method_16_code, 3, (Option.some Jvm.ClassFile.FieldType.int), 0, 1),
  (⟨"DriftSeaModel", "letterOf", "(I)I"⟩, prog_14_method_13_code, 1, (Option.some Jvm.ClassFile.FieldType.int), 1, 0),
  (⟨"DriftSeaModel", "compare", "()V"⟩, prog_14_method_21_code, 2, (Option.none : Option Jvm.ClassFile.FieldType), 0, 1),
  (⟨"DriftSeaModel", "isSign", "(I)Z"⟩, prog_14_method_20_code, 1, (Option.some Jvm.ClassFile.FieldType.boolean), 1, 0),
  (⟨"DriftSeaModel", "goOnAnd", "()V"⟩, prog_14_method_23_code, 1, (Option.none : Option Jvm.ClassFile.FieldType), 0, 1),
  (⟨"DriftSeaModel", "goOnOr", "()V"⟩, prog_14_method_24_code, 1, (Option.none : Option Jvm.ClassFile.FieldType), 0, 1),
  (⟨"DriftSeaModel", "atEnd", "()I"⟩, prog_14_method_28_code, 1, (Option.some Jvm.ClassFile.FieldType.int), 0, 1),
  (⟨"DriftSeaModel", "text", "(I)I"⟩, prog_14_method_46_code, 2, (Option.some Jvm.ClassFile.FieldType.int), 1, 1),
  (⟨"DriftSeaModel", "takeSea", "()I"⟩, prog_14_method_45_code, 2, (Option.some Jvm.ClassFile.FieldType.int), 0, 1),
  (⟨"DriftSeaModel", "isle", "(II)I"⟩, prog_14_method_52_code, 3, (Option.some Jvm.ClassFile.FieldType.int), 2, 1),
  (⟨"DriftSeaModel", "isIsle", "(I)Z"⟩, prog_14_method_47_code, 2, (Option.some Jvm.ClassFile.FieldType.boolean), 1, 1),
  (⟨"DriftSeaModel", "of", "(II)I"⟩, prog_14_method_49_code, 3, (Option.some Jvm.ClassFile.FieldType.int), 2, 1),
  (⟨"DriftSeaModel", "far", "(II)I"⟩, prog_14_method_53_code, 3, (Option.some Jvm.ClassFile.FieldType.int), 2, 1),
  (⟨"DriftSeaModel", "farOf", "(II)I"⟩, prog_14_method_50_code, 3, (Option.some Jvm.ClassFile.FieldType.int), 2, 1),
  (⟨"DriftSeaModel", "pull", "(I)Z"⟩, prog_14_method_54_code, 2, (Option.some Jvm.ClassFile.FieldType.boolean), 1, 1),
  (⟨"DriftSeaModel", "turn", "(I)Z"⟩, prog_14_method_56_code, 2, (Option.some Jvm.ClassFile.FieldType.boolean), 1, 1),
  (⟨"DriftSeaModel", "isTie", "(I)Z"⟩, prog_14_method_55_code, 2, (Option.some Jvm.ClassFile.FieldType.boolean), 1, 1),
  (⟨"DriftSeaModel", "price", "(II)Z"⟩, prog_14_method_57_code, 3, (Option.some Jvm.ClassFile.FieldType.boolean), 2, 1),
  (⟨"DriftSeaModel", "chance", "(II)Z"⟩, prog_14_method_58_code, 3, (Option.some Jvm.ClassFile.FieldType.boolean), 2, 1),
  (⟨"DriftSeaModel", "bridge", "(II)I"⟩, prog_14_method_59_code, 3, (Option.some Jvm.ClassFile.FieldType.int), 2, 1),
  (⟨"DriftSeaModel", "go", "(I)I"⟩, prog_14_method_78_code, 3, (Option.some Jvm.ClassFile.FieldType.int), 1, 1),
  (⟨"DriftSeaModel", "areSeasons", "(III)Z"⟩, prog_14_method_77_code, 4, (Option.some Jvm.ClassFile.FieldType.boolean), 3, 1),
  (⟨"DriftSeaModel", "keep", "()V"⟩, prog_14_method_75_code, 2, (Option.none : Option Jvm.ClassFile.FieldType), 0, 1),
  (⟨"DriftSeaModel", "write", "([II)V"⟩, prog_14_method_71_code, 4, (Option.none : Option Jvm.ClassFile.FieldType), 2, 1),
  (⟨"DriftSeaModel", "pass", "()V"⟩, prog_14_method_70_code, 5, (Option.none : Option Jvm.ClassFile.FieldType), 0, 1),
  (⟨"DriftSeaModel", "goAll", "()V"⟩, prog_14_method_67_code, 2, (Option.none : Option Jvm.ClassFile.FieldType), 0, 1),
  (⟨"DriftSeaModel", "layDrawn", "()V"⟩, prog_14_method_65_code, 7, (Option.none : Option Jvm.ClassFile.FieldType), 0, 1),
  (⟨"DriftSeaModel", "pullOf", "(I)I"⟩, prog_14_method_63_code, 6, (Option.some Jvm.ClassFile.FieldType.int), 1, 1),
  (⟨"DriftSeaModel", "worthOf", "(I)I"⟩, prog_14_method_33_code, 3, (Option.some Jvm.ClassFile.FieldType.int), 1, 1),
  (⟨"DriftSeaModel", "workOut", "(III)I"⟩, prog_14_method_32_code, 6, (Option.some Jvm.ClassFile.FieldType.int), 3, 1),
  (⟨"DriftSeaModel", "worked", "(IJJ)I"⟩, prog_14_method_31_code, 5, (Option.some Jvm.ClassFile.FieldType.int), 3, 0)]
def kinfo_7 : List KI := [(⟨"DriftSeaModel", "bounded", "(J)I"⟩, prog_14_method_30_code, 2, (Option.some Jvm.ClassFile.FieldType.int), 1, 0),
  (⟨"DriftSeaModel", "drawnTo", "(IIIZ)I"⟩, prog_14_method_64_code, 7, (Option.some Jvm.ClassFile.FieldType.int), 4, 1),
  (⟨"DriftSeaModel", "trade", "()V"⟩, prog_14_method_62_code, 4, (Option.none : Option Jvm.ClassFile.FieldType), 0, 1),
  (⟨"DriftSeaModel", "isHead", "(I)Z"⟩, prog_14_method_48_code, 2, (Option.some Jvm.ClassFile.FieldType.boolean), 1, 1),
  (⟨"DriftSeaModel", "cheapestFor", "(I)I"⟩, prog_14_method_61_code, 5, (Option.some Jvm.ClassFile.FieldType.int), 1, 1),
  (⟨"DriftSeaModel", "costOf", "(II)I"⟩, prog_14_method_60_code, 3, (Option.some Jvm.ClassFile.FieldType.int), 2, 1),
  (⟨"DriftSeaModel", "within", "(I)I"⟩, prog_14_method_66_code, 1, (Option.some Jvm.ClassFile.FieldType.int), 1, 0),
  (⟨"DriftSeaModel", "nearPair", "()I"⟩, prog_14_method_68_code, 3, (Option.some Jvm.ClassFile.FieldType.int), 0, 1),
  (⟨"DriftSeaModel", "join", "(II)V"⟩, prog_14_method_69_code, 5, (Option.none : Option Jvm.ClassFile.FieldType), 2, 1),
  (⟨"DriftSeaModel", "note", "()V"⟩, prog_14_method_76_code, 2, (Option.none : Option Jvm.ClassFile.FieldType), 0, 1),
  (⟨"DriftSeaModel", "years", "(IJ)I"⟩, prog_14_method_82_code, 5, (Option.some Jvm.ClassFile.FieldType.int), 2, 1),
  (⟨"DriftSeaModel", "blow", "()V"⟩, prog_14_method_81_code, 3, (Option.none : Option Jvm.ClassFile.FieldType), 0, 1),
  (⟨"DriftSeaModel", "draw", "(I)I"⟩, prog_14_method_79_code, 2, (Option.some Jvm.ClassFile.FieldType.int), 1, 1),
  (⟨"DriftSeaModel", "headMany", "()I"⟩, prog_14_method_80_code, 3, (Option.some Jvm.ClassFile.FieldType.int), 0, 1),
  (⟨"DriftSeaModel", "undo", "()I"⟩, prog_14_method_83_code, 1, (Option.some Jvm.ClassFile.FieldType.int), 0, 1),
  (⟨"DriftSeaModel", "read", "([IIZ)V"⟩, prog_14_method_72_code, 5, (Option.none : Option Jvm.ClassFile.FieldType), 3, 1),
  (⟨"DriftSeaModel", "log", "(II)I"⟩, prog_14_method_84_code, 3, (Option.some Jvm.ClassFile.FieldType.int), 2, 1),
  (⟨"DriftSeaModel", "tie", "(II)I"⟩, prog_14_method_85_code, 3, (Option.some Jvm.ClassFile.FieldType.int), 2, 1),
  (⟨"DriftSeaModel", "led", "(III)I"⟩, prog_14_method_86_code, 5, (Option.some Jvm.ClassFile.FieldType.int), 3, 1),
  (⟨"DriftSeaModel", "drift", "(II)I"⟩, prog_14_method_87_code, 5, (Option.some Jvm.ClassFile.FieldType.int), 2, 1),
  (⟨"DriftSeaModel", "putAside", "()V"⟩, prog_14_method_73_code, 1, (Option.none : Option Jvm.ClassFile.FieldType), 0, 1),
  (⟨"DriftSeaModel", "takeBack", "()V"⟩, prog_14_method_74_code, 1, (Option.none : Option Jvm.ClassFile.FieldType), 0, 1),
  (⟨"DriftSeaModel", "buys", "(II)I"⟩, prog_14_method_88_code, 3, (Option.some Jvm.ClassFile.FieldType.int), 2, 1),
  (⟨"DriftSeaModel", "areTwo", "(II)Z"⟩, prog_14_method_51_code, 3, (Option.some Jvm.ClassFile.FieldType.boolean), 2, 1),
  (⟨"DriftSeaModel", "pays", "(I)I"⟩, prog_14_method_89_code, 4, (Option.some Jvm.ClassFile.FieldType.int), 1, 1),
  (⟨"DriftSeaModel", "lacks", "(I)I"⟩, prog_14_method_90_code, 2, (Option.some Jvm.ClassFile.FieldType.int), 1, 1),
  (⟨"DriftSeaModel", "monopoly", "(II)I"⟩, prog_14_method_91_code, 8, (Option.some Jvm.ClassFile.FieldType.int), 2, 1),
  (⟨"DriftSeaModel", "undercut", "(II)I"⟩, prog_14_method_92_code, 6, (Option.some Jvm.ClassFile.FieldType.int), 2, 1),
  (⟨"DriftSeaModel", "ahead", "(III)I"⟩, prog_14_method_94_code, 5, (Option.some Jvm.ClassFile.FieldType.int), 3, 1),
  (⟨"DriftSeaModel", "passAll", "(I)V"⟩, prog_14_method_93_code, 3, (Option.none : Option Jvm.ClassFile.FieldType), 1, 1),
  (⟨"DriftSeaModel", "rest", "(I)I"⟩, prog_14_method_95_code, 4, (Option.some Jvm.ClassFile.FieldType.int), 1, 1),
  (⟨"DriftSeaModel", "round", "(II)I"⟩, prog_14_method_98_code, 7, (Option.some Jvm.ClassFile.FieldType.int), 2, 1),
  (⟨"DriftSeaModel", "writeLook", "(I)V"⟩, prog_14_method_96_code, 4, (Option.none : Option Jvm.ClassFile.FieldType), 1, 1),
  (⟨"DriftSeaModel", "areAlike", "(II)Z"⟩, prog_14_method_97_code, 4, (Option.some Jvm.ClassFile.FieldType.boolean), 2, 1),
  (⟨"DriftSeaModel", "one", "(III)I"⟩, prog_14_method_99_code, 6, (Option.some Jvm.ClassFile.FieldType.int), 3, 1),
  (⟨"DriftSeaModel", "nearest", "(IIII)I"⟩, prog_14_method_100_code, 8, (Option.some Jvm.ClassFile.FieldType.int), 4, 1),
  (⟨"DriftSeaModel", "snap", "(I)I"⟩, prog_14_method_101_code, 4, (Option.some Jvm.ClassFile.FieldType.int), 1, 1),
  (⟨"DriftSeaModel", "sail", "(IIII)I"⟩, prog_14_method_103_code, 5, (Option.some Jvm.ClassFile.FieldType.int), 4, 1),
  (⟨"DriftSeaModel", "sailAll", "(III)V"⟩, prog_14_method_102_code, 12, (Option.none : Option Jvm.ClassFile.FieldType), 3, 1),
  (⟨"DriftSeaModel", "haste", "(III)I"⟩, prog_14_method_104_code, 5, (Option.some Jvm.ClassFile.FieldType.int), 3, 1)]
def kinfo_8 : List KI := [(⟨"DriftSeaModel", "treaty", "(IIII)I"⟩, prog_14_method_109_code, 6, (Option.some Jvm.ClassFile.FieldType.int), 4, 1),
  (⟨"DriftSeaModel", "areCodes", "(I)Z"⟩, prog_14_method_108_code, 2, (Option.some Jvm.ClassFile.FieldType.boolean), 1, 1),
  (⟨"DriftSeaModel", "tryTreaties", "(IIII[I)V"⟩, prog_14_method_107_code, 7, (Option.none : Option Jvm.ClassFile.FieldType), 5, 1),
  (⟨"DriftSeaModel", "doesTreat", "(IIIIII)Z"⟩, prog_14_method_106_code, 9, (Option.some Jvm.ClassFile.FieldType.boolean), 6, 1),
  (⟨"DriftSeaModel", "deal", "(IIII)V"⟩, prog_14_method_105_code, 6, (Option.none : Option Jvm.ClassFile.FieldType), 4, 1),
  (⟨"DriftSeaModel", "bicker", "(IIIIII)I"⟩, prog_14_method_111_code, 7, (Option.some Jvm.ClassFile.FieldType.int), 6, 1),
  (⟨"DriftSeaModel", "bickerFrom", "(III)V"⟩, prog_14_method_110_code, 5, (Option.none : Option Jvm.ClassFile.FieldType), 3, 1),
  (⟨"DriftSeaModel", "chart", "(IIII)I"⟩, prog_14_method_112_code, 5, (Option.some Jvm.ClassFile.FieldType.int), 4, 1),
  (⟨"DriftSeaModel", "fits", "(I)I"⟩, prog_14_method_115_code, 6, (Option.some Jvm.ClassFile.FieldType.int), 1, 1),
  (⟨"DriftSeaModel", "agrees", "()Z"⟩, prog_14_method_114_code, 6, (Option.some Jvm.ClassFile.FieldType.boolean), 0, 1),
  (⟨"DriftSeaModel", "lastChart", "()I"⟩, prog_14_method_113_code, 3, (Option.some Jvm.ClassFile.FieldType.int), 0, 1),
  (⟨"DriftSeaModel", "secret", "(I)I"⟩, prog_14_method_116_code, 8, (Option.some Jvm.ClassFile.FieldType.int), 1, 1),
  (⟨"DriftSeaModel", "sees", "(II)I"⟩, prog_14_method_118_code, 5, (Option.some Jvm.ClassFile.FieldType.int), 2, 1),
  (⟨"DriftSeaModel", "isNear", "(III)Z"⟩, prog_14_method_117_code, 4, (Option.some Jvm.ClassFile.FieldType.boolean), 3, 1),
  (⟨"DriftSeaModel", "everywhere", "(I)I"⟩, prog_14_method_120_code, 2, (Option.some Jvm.ClassFile.FieldType.int), 1, 1),
  (⟨"DriftSeaModel", "fromAll", "(I)I"⟩, prog_14_method_119_code, 6, (Option.some Jvm.ClassFile.FieldType.int), 1, 1),
  (⟨"DriftSeaModel", "when", "(III)I"⟩, prog_14_method_121_code, 6, (Option.some Jvm.ClassFile.FieldType.int), 3, 1),
  (⟨"DriftSeaModel", "lands", "(II)I"⟩, prog_14_method_123_code, 7, (Option.some Jvm.ClassFile.FieldType.int), 2, 1),
  (⟨"DriftSeaModel", "landOf", "(II)I"⟩, prog_14_method_122_code, 7, (Option.some Jvm.ClassFile.FieldType.int), 2, 1),
  (⟨"DriftSeaModel", "land", "(II)I"⟩, prog_14_method_124_code, 3, (Option.some Jvm.ClassFile.FieldType.int), 2, 1),
  (⟨"DriftSeaModel", "wide", "(I)I"⟩, prog_14_method_125_code, 6, (Option.some Jvm.ClassFile.FieldType.int), 1, 1),
  (⟨"DriftSeaModel", "image", "()I"⟩, prog_14_method_126_code, 1, (Option.some Jvm.ClassFile.FieldType.int), 0, 1),
  (⟨"DriftSeaModel", "back", "()I"⟩, prog_14_method_127_code, 1, (Option.some Jvm.ClassFile.FieldType.int), 0, 1),
  (⟨"DriftSeaModel", "count", "(I)I"⟩, prog_14_method_128_code, 2, (Option.some Jvm.ClassFile.FieldType.int), 1, 1),
  (⟨"java/util/Arrays", "fill", "([II)V"⟩, prog_30_method_103_code, 4, (Option.none : Option Jvm.ClassFile.FieldType), 2, 0),
  (⟨"java/util/Arrays", "fill", "([IIII)V"⟩, prog_30_method_104_code, 5, (Option.none : Option Jvm.ClassFile.FieldType), 4, 0),
  (⟨"java/util/Arrays", "rangeCheck", "(III)V"⟩, prog_30_method_30_code, 3, (Option.none : Option Jvm.ClassFile.FieldType), 3, 0),
  (⟨"java/lang/Integer", "bitCount", "(I)I"⟩, prog_20_method_49_code, 1, (Option.some Jvm.ClassFile.FieldType.int), 1, 0),
  (⟨"java/lang/Integer", "numberOfTrailingZeros", "(I)I"⟩, prog_20_method_48_code, 2, (Option.some Jvm.ClassFile.FieldType.int), 1, 0),
  (⟨"java/lang/String", "charAt", "(I)C"⟩, prog_23_method_56_code, 2, (Option.some Jvm.ClassFile.FieldType.char), 1, 1),
  (⟨"java/lang/String", "indexOf", "(I)I"⟩, prog_23_method_79_code, 2, (Option.some Jvm.ClassFile.FieldType.int), 1, 1),
  (⟨"java/lang/String", "indexOf", "(II)I"⟩, prog_23_method_80_code, 3, (Option.some Jvm.ClassFile.FieldType.int), 2, 1),
  (⟨"java/lang/String", "isLatin1", "()Z"⟩, prog_23_method_154_code, 1, (Option.some Jvm.ClassFile.FieldType.boolean), 0, 1),
  (⟨"java/lang/String", "coder", "()B"⟩, prog_23_method_152_code, 1, (Option.some Jvm.ClassFile.FieldType.byte), 0, 1),
  (⟨"java/lang/String", "length", "()I"⟩, prog_23_method_54_code, 1, (Option.some Jvm.ClassFile.FieldType.int), 0, 1),
  (⟨"java/lang/String", "checkIndex", "(II)V"⟩, prog_23_method_155_code, 2, (Option.none : Option Jvm.ClassFile.FieldType), 2, 0),
  (⟨"java/lang/StringLatin1", "canEncode", "(I)Z"⟩, prog_24_method_4_code, 1, (Option.some Jvm.ClassFile.FieldType.boolean), 1, 0),
  (⟨"java/lang/StringLatin1", "charAt", "([BI)C"⟩, prog_24_method_2_code, 2, (Option.some Jvm.ClassFile.FieldType.char), 2, 0),
  (⟨"java/lang/StringLatin1", "indexOf", "([BIII)I"⟩, prog_24_method_22_code, 4, (Option.some Jvm.ClassFile.FieldType.int), 4, 0),
  (⟨"java/lang/StringLatin1", "indexOfChar", "([BIII)I"⟩, prog_24_method_23_code, 6, (Option.some Jvm.ClassFile.FieldType.int), 4, 0)]
def kinfo_9 : List KI := [(⟨"jdk/internal/util/Preconditions", "checkIndex", "(IILjava/util/function/BiFunction;)I"⟩, prog_32_method_11_code, 3, (Option.some Jvm.ClassFile.FieldType.int), 3, 0)]
def kinfo (m : Nat) : Option KI := cond (Nat.blt m 40) kinfo_0[m - 0]? (cond (Nat.blt m 80) kinfo_1[m - 40]? (cond (Nat.blt m 120) kinfo_2[m - 80]? (cond (Nat.blt m 160) kinfo_3[m - 120]? (cond (Nat.blt m 200) kinfo_4[m - 160]? (cond (Nat.blt m 240) kinfo_5[m - 200]? (cond (Nat.blt m 280) kinfo_6[m - 240]? (cond (Nat.blt m 320) kinfo_7[m - 280]? (cond (Nat.blt m 360) kinfo_8[m - 320]? (cond (Nat.blt m 400) kinfo_9[m - 360]? none)))))))))
def knest : List (String × Nat × MethodName × String) := [("DriftSea", 9, ⟨"DriftSea$Tape", "<init>", "()V"⟩, "DriftSea"), ("DriftSea", 18, ⟨"DriftSea$Sea", "<init>", "()V"⟩, "DriftSea"), ("DriftSea", 32, ⟨"DriftSea$Rule", "<init>", "()V"⟩, "DriftSea"), ("DriftSea", 56, ⟨"DriftSea$Weather", "<init>", "()V"⟩, "DriftSea"), ("DriftSea", 63, ⟨"DriftSea$Trade", "<init>", "()V"⟩, "DriftSea"), ("DriftSea$Course", 11, ⟨"DriftSea$Trade", "<init>", "()V"⟩, "DriftSea"), ("DriftSea$Course", 121, ⟨"DriftSea", "held", "(II)I"⟩, "DriftSea"), ("DriftSea$State", 46, ⟨"DriftSea", "held", "(II)I"⟩, "DriftSea"), ("DriftSea$Past", 51, ⟨"DriftSea", "isWithin", "(III)Z"⟩, "DriftSea"), ("DriftSea$Forecast", 116, ⟨"DriftSea", "held", "(II)I"⟩, "DriftSea"), ("DriftSea$Deals", 111, ⟨"DriftSea", "isWithin", "(III)Z"⟩, "DriftSea")]
def kstrs : List (String × Nat × String × Nat) := [("DriftSea$Sea", 57, "witb", 0), ("DriftSea$Sea", 98, "fjrc    xymgnqspabkw    abl     ", 1), ("DriftSea$Rule", 93, "dwkmnh", 2)]
def kcls : Nat → String
  | 13 => "java/lang/String"
  | n => match vwCl[n]? with
    | some q => q.1
    | none => ""
def ksta : Nat → Option (String × String × String)
  | 0 => some ("DriftSea$Sea", "UNTOLD", "[I")
  | 1 => some ("DriftSea$Sea", "MOST_CLAUSES", "[I")
  | 2 => some ("DriftSea$Sea", "FIRST_ROW", "[I")
  | 3 => some ("DriftSea$Sea", "LEAST", "[I")
  | 4 => some ("DriftSea$Sea", "MOST", "[I")
  | 5 => some ("java/lang/String", "COMPACT_STRINGS", "Z")
  | 6 => some ("jdk/internal/util/Preconditions", "SIOOBE_FORMATTER", "Ljava/util/function/BiFunction;")
  | _ => none
def slkb (w : Nat) (own : String) (i : Nat) (y : MethodName) : Bool := inW w (.methodLink own i y) || knest.any (fun q => decide (q.1 = own) && (decide (q.2.1 = i) && decide (q.2.2.1 = y)))
/-- an entry's links, by the place of their word -/
def elkb (own : String) (ini : Bool) (pc : Nat) (e : ME) (w : Nat) : Bool := match e with
  | (ins, _, a, k, sw) => match ins with
    | .bipush n => decide ((Int8.ofInt n).toInt32 = Int32.ofInt n)
    | .sipush n => decide ((Int16.ofInt n).toInt32 = Int32.ofInt n)
    | .ldc i => match sw with
      | [] => kstrs.any (fun q => decide (q.1 = own) && (decide (q.2.1 = i) && decide (q.2.2.2 = a)))
      | q :: _ => inW w (.constant own i (Int32.ofInt q.1))
    | .ldc_w i => match sw with
      | [] => false
      | q :: _ => inW w (.constant own i (Int32.ofInt q.1))
    | .ldc2_w i => match sw with
      | [] => false
      | q :: _ => inW w (.constantLong own i (Int64.ofInt q.1))
    | .ifCond _ o => decide ((pc : Int) + o = (a : Int))
    | .if_icmp _ o => decide ((pc : Int) + o = (a : Int))
    | .goto o => decide ((pc : Int) + o = (a : Int))
    | .ifnonnull o => decide ((pc : Int) + o = (a : Int))
    | .tableswitch d lo hi offs => decide ((pc : Int) + d = (a : Int)) && (sw.all (fun q => decide (lo ≤ q.1) && (decide (q.1 ≤ hi) && (decide (offs[(q.1 - lo).toNat]? = some ((q.2 : Int) - pc)) && decide ((Int32.ofInt q.1).toInt = q.1)))) && decide (sw.map (fun q => q.1) = (List.range (hi - lo + 1).toNat).map (fun j : Nat => lo + (j : Int))))
    | .lookupswitch d ps => decide ((pc : Int) + d = (a : Int)) && ((ps.toList.zip (ps.toList.drop 1)).all (fun (a, next) => a.1 < next.1) && (sw.all (fun q => decide (Op.lookupswitch.offset ps.toList d q.1 = (q.2 : Int) - pc) && decide ((Int32.ofInt q.1).toInt = q.1)) && decide (sw.map (fun q => q.1) = ps.toList.map (fun q => q.1))))
    | .getfield i => match vwCl[a]? with
      | some (_, T, N) => Nat.blt k N && inW w (.fieldLink own i (T k).1 (T k).2.1 (T k).2.2.1)
      | none => match k with
        | 0 => inW w (.fieldLink own i "java/lang/String" "coder" "B")
        | 1 => inW w (.fieldLink own i "java/lang/String" "value" "[B")
        | _ => false
    | .putfield i => match vwCl[a]? with
      | some (_, T, N) => Nat.blt k N && (inW w (.fieldLink own i (T k).1 (T k).2.1 (T k).2.2.1) && (!(T k).2.2.2 || (ini && decide ((T k).1 = own))))
      | none => false
    | .getstatic i => match ksta a with
      | some (C, n, d) => inW w (.fieldLink own i C n d)
      | none => false
    | .new i => match vwCl[a]? with
      | some (C, _, _) => inW w (.classLink own i C)
      | none => false
    | .newarray t => match a, t with
      | 0, .int => true
      | 1, .long => true
      | _, _ => false
    | .anewarray i => match a with
      | 2 => inW w (.classLink own i "DriftSea$Rule")
      | 3 => inW w (.classLink own i "DriftSea$State")
      | _ => false
    | .invokestatic i => match a with
      | 0 => match k with
        | 5 => inW w (.methodLink own i arraycopyName)
        | 101 => inW w (.methodLink own i Lib.Math.abs.name)
        | 102 => inW w (.methodLink own i Lib.Math.max.name)
        | 103 => inW w (.methodLink own i Lib.Math.min.name)
        | 104 => inW w (.methodLink own i Lib.MathLoose.max_long.x)
        | 105 => inW w (.methodLink own i Lib.MathLoose.min_long.x)
        | _ => false
      | a + 1 => match kinfo a with
        | some (y, _, _, _, n, 0) => Nat.beq k n && (slkb w own i y && decide (kcost a = (0, 0)))
        | _ => false
    | .invokevirtual i => match kinfo a, sw with
      | some (y, _, _, _, n, 1), [q] => Nat.beq k (n + 1) && (slkb w own i y && (decide (kcost a = (0, 0)) && decide (kcls q.2 = y.cls)))
      | _, _ => false
    | .invokespecial i => match a with
      | 0 => inW w (.methodLink own i Lib.objectInit)
      | a + 1 => match kinfo a, sw with
        | some (y, _, _, none, n, 2), [q] => Nat.beq k (n + 1) && (slkb w own i y && decide (kcost a = (q.1.toNat, q.2)))
        | _, _ => false
    | _ => true
def decb (bs : ByteArray) (pc : Nat) (ins : Instr) (nx : Nat) : Bool := decide (decode bs pc = .ok (ins, nx - pc)) && (decide (nx = pc + (nx - pc)) && (decide (ilen ins = 0) || decide (nx = pc + ilen ins)))
def cchk (own : String) (ini : Bool) (bs : ByteArray) : MC → List Nat → Bool
  | [], [] => true
  | q :: r, w :: ws => decb bs q.1 q.2.1 q.2.2.1 && (elkb own ini q.1 q.2 w && cchk own ini bs r ws)
  | _, _ => false
def rtok (rt : Nat) (ret : Option FieldType) : Bool := match rt, ret with
  | 0, none => true
  | 1, some .int => true
  | 2, some .boolean => true
  | 2, some .byte => true
  | 3, some .char => true
  | 4, some .long => true
  | _, _ => false
/-- a method's words, and its code against its bytes -/
def mchk (m w1 w2 w3 w4 : Nat) (ws : List Nat) : Bool := match kinfo m, kprog m with
  | some (y, bs, mx, ret, n, kd), some (cd, mx', rt) => Nat.beq mx mx' && (Nat.ble mx 45 && (rtok rt ret && (inW w1 (.code y bs mx ret) && (inW w2 (.initialized y.cls) && (plainName y.cls && (decide (y.cls ≠ "java/lang/invoke/MethodHandle") && (decide (y.cls ≠ "java/lang/invoke/VarHandle") && (decide ((parseMethodDescriptor y.desc).map (fun d => d.parameters.length) = some n) && ((match kd with
      | 0 => inW w3 (.static y)
      | 1 => inW w3 (.instanceMethod y) && inW w4 (.selects y.cls y y)
      | 2 => inW w3 (.instanceMethod y) && decide (y.name = "<init>")
      | _ => false) && cchk y.cls (decide (y.name = "<init>")) bs cd ws)))))))))
  | _, _ => false

theorem kcl_0 : wsIn (u_ws RX0 TX0 9) [444, 446, 448, 450, 452, 454, 456, 458, 460] = true := by decide +kernel
theorem kci_0 : inW 428 (.instantiable RX0 9) = true ∧ inW 129 (.initialized RX0) = true := ⟨by decide +kernel, by decide +kernel⟩
theorem kcl_1 : wsIn (u_ws RX1 TX1 17) [305, 307, 309, 311, 313, 315, 317, 319, 321, 323, 325, 327, 329, 331, 333, 335, 337] = true := by decide +kernel
theorem kci_1 : inW 281 (.instantiable RX1 17) = true ∧ inW 126 (.initialized RX1) = true := ⟨by decide +kernel, by decide +kernel⟩
theorem kcl_2 : wsIn (u_ws RX2 TX2 15) [396, 398, 400, 402, 404, 406, 408, 410, 412, 414, 416, 418, 420, 422, 424] = true := by decide +kernel
theorem kci_2 : inW 374 (.instantiable RX2 15) = true ∧ inW 128 (.initialized RX2) = true := ⟨by decide +kernel, by decide +kernel⟩
theorem kcl_3 : wsIn (u_ws RX3 TX3 8) [356, 358, 360, 362, 364, 366, 368, 370] = true := by decide +kernel
theorem kci_3 : inW 341 (.instantiable RX3 8) = true ∧ inW 127 (.initialized RX3) = true := ⟨by decide +kernel, by decide +kernel⟩
theorem kcl_4 : wsIn (u_ws RX4 TX4 6) [229, 231, 233, 235, 237, 239] = true := by decide +kernel
theorem kci_4 : inW 215 (.instantiable RX4 6) = true ∧ inW 123 (.initialized RX4) = true := ⟨by decide +kernel, by decide +kernel⟩
theorem kcl_5 : wsIn (u_ws RX5 TX5 3) [191, 193, 195] = true := by decide +kernel
theorem kci_5 : inW 183 (.instantiable RX5 3) = true ∧ inW 120 (.initialized RX5) = true := ⟨by decide +kernel, by decide +kernel⟩
theorem kcl_6 : wsIn (u_ws RX6 TX6 2) [176, 178] = true := by decide +kernel
theorem kci_6 : inW 169 (.instantiable RX6 2) = true ∧ inW 119 (.initialized RX6) = true := ⟨by decide +kernel, by decide +kernel⟩
theorem kcl_7 : wsIn (u_ws RX7 TX7 1) [211] = true := by decide +kernel
theorem kci_7 : inW 199 (.instantiable RX7 1) = true ∧ inW 121 (.initialized RX7) = true := ⟨by decide +kernel, by decide +kernel⟩
theorem kcl_8 : wsIn (u_ws RX8 TX8 3) [160, 162, 164] = true := by decide +kernel
theorem kci_8 : inW 152 (.instantiable RX8 3) = true ∧ inW 118 (.initialized RX8) = true := ⟨by decide +kernel, by decide +kernel⟩
theorem kcl_9 : wsIn (u_ws RX9 TX9 5) [269, 271, 273, 275, 277] = true := by decide +kernel
theorem kci_9 : inW 259 (.instantiable RX9 5) = true ∧ inW 125 (.initialized RX9) = true := ⟨by decide +kernel, by decide +kernel⟩
theorem kcl_10 : wsIn (u_ws RX10 TX10 3) [251, 253, 255] = true := by decide +kernel
theorem kci_10 : inW 243 (.instantiable RX10 3) = true ∧ inW 124 (.initialized RX10) = true := ⟨by decide +kernel, by decide +kernel⟩
theorem kcl_11 : wsIn (u_ws RX11 TX11 17) [480, 482, 484, 486, 488, 490, 492, 494, 496, 498, 500, 502, 504, 506, 508, 510, 512] = true := by decide +kernel
theorem kci_11 : inW 144 (.instantiable RX11 17) = true ∧ inW 117 (.initialized RX11) = true := ⟨by decide +kernel, by decide +kernel⟩
theorem kcl_12 : wsIn (u_ws RX12 TX12 79) [1722, 1724, 1726, 1728, 1730, 1732, 1734, 1736, 1738, 1740, 1742, 1744, 1746, 1748, 1750, 1752, 1754, 1756, 1758, 1760, 1762, 1764, 1766, 1768, 1770, 1772, 1774, 1776, 1778, 1780, 1782, 1784, 1786, 1788, 1790, 1792, 1794, 1796, 1798, 1800, 1802, 1804, 1806, 1808, 1810, 1812, 1814, 1816, 1818, 1820, 1822, 1824, 1826, 1828, 1830, 1832, 1834, 1836, 1838, 1840, 1842, 1844, 1846, 1848, 1850, 1852, 1854, 1856, 1858, 1860, 1862, 1864, 1866, 1868, 1870, 1872, 1874, 1876, 1878] = true := by decide +kernel
theorem kci_12 : inW 1638 (.instantiable RX12 79) = true ∧ inW 130 (.initialized RX12) = true := ⟨by decide +kernel, by decide +kernel⟩
