/-! names: classes, their fields in javap's order (by program) -/
def R0 : String := "RedSky"
def T0 : u_T := fun k => match k with
  | 0 => ("RedSky", "calendar", "LRedSky$Calendar;", true)
  | 1 => ("RedSky", "diaries", "[LRedSky$Diary;", true)
  | 2 => ("RedSky", "page", "LRedSky$Page;", true)
  | 3 => ("RedSky", "sayings", "[LRedSky$Saying;", true)
  | 4 => ("RedSky", "said", "I", false)
  | 5 => ("RedSky", "scales", "LRedSky$Scales;", true)
  | 6 => ("RedSky", "reading", "LRedSky$Reading;", true)
  | 7 => ("RedSky", "otherReading", "LRedSky$Reading;", true)
  | 8 => ("RedSky", "chosen", "LRedSky$Days;", true)
  | 9 => ("RedSky", "learner", "LRedSky$Learner;", true)
  | 10 => ("RedSky", "almanacs", "[LRedSky$Almanac;", true)
  | _ => ("RedSky", "likeness", "LRedSky$Likeness;", true)
def ty0 : Nat → FieldType := fun k => match k with
  | 0 => (.object "RedSky$Calendar")
  | 1 => (.array (.object "RedSky$Diary"))
  | 2 => (.object "RedSky$Page")
  | 3 => (.array (.object "RedSky$Saying"))
  | 4 => .int
  | 5 => (.object "RedSky$Scales")
  | 6 => (.object "RedSky$Reading")
  | 7 => (.object "RedSky$Reading")
  | 8 => (.object "RedSky$Days")
  | 9 => (.object "RedSky$Learner")
  | 10 => (.array (.object "RedSky$Almanac"))
  | _ => (.object "RedSky$Likeness")
theorem nm0 : ∀ a, a < 12 → ∀ b, b < 12 → a ≠ b → (T0 a).2.1 ≠ (T0 b).2.1 := by decide +kernel
theorem ty0_ok : ∀ k, k < 12 → parseFieldDescriptor (T0 k).2.2.1 = some (ty0 k) := by decide +kernel
theorem in0 : ∀ w ∈ u_ws R0 T0 12, w ∈ lw_tbl := by decide +kernel
def R1 : String := "RedSky$Calendar"
def T1 : u_T := fun k => match k with
  | 0 => ("RedSky$Calendar", "firstYear", "I", false)
  | 1 => ("RedSky$Calendar", "saintMonths", "[I", true)
  | 2 => ("RedSky$Calendar", "saintDates", "[I", true)
  | 3 => ("RedSky$Calendar", "saintYears", "[I", true)
  | _ => ("RedSky$Calendar", "saintMoves", "[I", true)
def ty1 : Nat → FieldType := fun k => match k with
  | 0 => .int
  | 1 => (.array .int)
  | 2 => (.array .int)
  | 3 => (.array .int)
  | _ => (.array .int)
theorem nm1 : ∀ a, a < 5 → ∀ b, b < 5 → a ≠ b → (T1 a).2.1 ≠ (T1 b).2.1 := by decide +kernel
theorem ty1_ok : ∀ k, k < 5 → parseFieldDescriptor (T1 k).2.2.1 = some (ty1 k) := by decide +kernel
theorem in1 : ∀ w ∈ u_ws R1 T1 5, w ∈ lw_tbl := by decide +kernel
def R2 : String := "RedSky$Diary"
def T2 : u_T := fun k => match k with
  | _ => ("RedSky$Diary", "sheet", "[I", true)
def ty2 : Nat → FieldType := fun k => match k with
  | _ => (.array .int)
theorem nm2 : ∀ a, a < 1 → ∀ b, b < 1 → a ≠ b → (T2 a).2.1 ≠ (T2 b).2.1 := by decide +kernel
theorem ty2_ok : ∀ k, k < 1 → parseFieldDescriptor (T2 k).2.2.1 = some (ty2 k) := by decide +kernel
theorem in2 : ∀ w ∈ u_ws R2 T2 1, w ∈ lw_tbl := by decide +kernel
def R3 : String := "RedSky$Page"
def T3 : u_T := fun k => match k with
  | 0 => ("RedSky$Page", "length", "I", false)
  | 1 => ("RedSky$Page", "codes", "[B", true)
  | 2 => ("RedSky$Page", "draft", "LRedSky$Saying;", false)
  | 3 => ("RedSky$Page", "condition", "LRedSky$Condition;", false)
  | 4 => ("RedSky$Page", "inSecond", "Z", false)
  | 5 => ("RedSky$Page", "state", "I", false)
  | 6 => ("RedSky$Page", "field", "I", false)
  | 7 => ("RedSky$Page", "place", "I", false)
  | 8 => ("RedSky$Page", "value", "I", false)
  | 9 => ("RedSky$Page", "digits", "I", false)
  | 10 => ("RedSky$Page", "minus", "Z", false)
  | 11 => ("RedSky$Page", "open", "I", false)
  | 12 => ("RedSky$Page", "nots", "[I", true)
  | 13 => ("RedSky$Page", "factors", "[I", true)
  | 14 => ("RedSky$Page", "deepestFactor", "[I", true)
  | 15 => ("RedSky$Page", "terms", "[I", true)
  | _ => ("RedSky$Page", "deepestTerm", "[I", true)
def ty3 : Nat → FieldType := fun k => match k with
  | 0 => .int
  | 1 => (.array .byte)
  | 2 => (.object "RedSky$Saying")
  | 3 => (.object "RedSky$Condition")
  | 4 => .boolean
  | 5 => .int
  | 6 => .int
  | 7 => .int
  | 8 => .int
  | 9 => .int
  | 10 => .boolean
  | 11 => .int
  | 12 => (.array .int)
  | 13 => (.array .int)
  | 14 => (.array .int)
  | 15 => (.array .int)
  | _ => (.array .int)
theorem nm3 : ∀ a, a < 17 → ∀ b, b < 17 → a ≠ b → (T3 a).2.1 ≠ (T3 b).2.1 := by decide +kernel
theorem ty3_ok : ∀ k, k < 17 → parseFieldDescriptor (T3 k).2.2.1 = some (ty3 k) := by decide +kernel
theorem in3 : ∀ w ∈ u_ws R3 T3 17, w ∈ lw_tbl := by decide +kernel
def R4 : String := "RedSky$Saying"
def T4 : u_T := fun k => match k with
  | 0 => ("RedSky$Saying", "first", "LRedSky$Condition;", true)
  | 1 => ("RedSky$Saying", "second", "LRedSky$Condition;", true)
  | 2 => ("RedSky$Saying", "from", "I", false)
  | 3 => ("RedSky$Saying", "to", "I", false)
  | 4 => ("RedSky$Saying", "onAll", "Z", false)
  | 5 => ("RedSky$Saying", "fromMonth", "I", false)
  | 6 => ("RedSky$Saying", "toMonth", "I", false)
  | _ => ("RedSky$Saying", "saint", "I", false)
def ty4 : Nat → FieldType := fun k => match k with
  | 0 => (.object "RedSky$Condition")
  | 1 => (.object "RedSky$Condition")
  | 2 => .int
  | 3 => .int
  | 4 => .boolean
  | 5 => .int
  | 6 => .int
  | _ => .int
theorem nm4 : ∀ a, a < 8 → ∀ b, b < 8 → a ≠ b → (T4 a).2.1 ≠ (T4 b).2.1 := by decide +kernel
theorem ty4_ok : ∀ k, k < 8 → parseFieldDescriptor (T4 k).2.2.1 = some (ty4 k) := by decide +kernel
theorem in4 : ∀ w ∈ u_ws R4 T4 8, w ∈ lw_tbl := by decide +kernel
def R5 : String := "RedSky$Condition"
def T5 : u_T := fun k => match k with
  | 0 => ("RedSky$Condition", "steps", "[B", true)
  | 1 => ("RedSky$Condition", "numbers", "[S", true)
  | 2 => ("RedSky$Condition", "length", "I", false)
  | 3 => ("RedSky$Condition", "fields", "I", false)
  | 4 => ("RedSky$Condition", "comparisons", "I", false)
  | _ => ("RedSky$Condition", "depth", "I", false)
def ty5 : Nat → FieldType := fun k => match k with
  | 0 => (.array .byte)
  | 1 => (.array .short)
  | 2 => .int
  | 3 => .int
  | 4 => .int
  | _ => .int
theorem nm5 : ∀ a, a < 6 → ∀ b, b < 6 → a ≠ b → (T5 a).2.1 ≠ (T5 b).2.1 := by decide +kernel
theorem ty5_ok : ∀ k, k < 6 → parseFieldDescriptor (T5 k).2.2.1 = some (ty5 k) := by decide +kernel
theorem in5 : ∀ w ∈ u_ws R5 T5 6, w ∈ lw_tbl := by decide +kernel
def R6 : String := "RedSky$Scales"
def T6 : u_T := fun k => match k with
  | _ => ("RedSky$Scales", "stack", "[LRedSky$Days;", true)
def ty6 : Nat → FieldType := fun k => match k with
  | _ => (.array (.object "RedSky$Days"))
theorem nm6 : ∀ a, a < 1 → ∀ b, b < 1 → a ≠ b → (T6 a).2.1 ≠ (T6 b).2.1 := by decide +kernel
theorem ty6_ok : ∀ k, k < 1 → parseFieldDescriptor (T6 k).2.2.1 = some (ty6 k) := by decide +kernel
theorem in6 : ∀ w ∈ u_ws R6 T6 1, w ∈ lw_tbl := by decide +kernel
def R7 : String := "RedSky$Days"
def T7 : u_T := fun k => match k with
  | _ => ("RedSky$Days", "bits", "[J", true)
def ty7 : Nat → FieldType := fun k => match k with
  | _ => (.array .long)
theorem nm7 : ∀ a, a < 1 → ∀ b, b < 1 → a ≠ b → (T7 a).2.1 ≠ (T7 b).2.1 := by decide +kernel
theorem ty7_ok : ∀ k, k < 1 → parseFieldDescriptor (T7 k).2.2.1 = some (ty7 k) := by decide +kernel
theorem in7 : ∀ w ∈ u_ws R7 T7 1, w ∈ lw_tbl := by decide +kernel
def R8 : String := "RedSky$Reading"
def T8 : u_T := fun k => match k with
  | 0 => ("RedSky$Reading", "season", "LRedSky$Days;", true)
  | 1 => ("RedSky$Reading", "firstKnown", "LRedSky$Days;", true)
  | 2 => ("RedSky$Reading", "firstTrue", "LRedSky$Days;", true)
  | 3 => ("RedSky$Reading", "secondKnown", "LRedSky$Days;", true)
  | 4 => ("RedSky$Reading", "secondTrue", "LRedSky$Days;", true)
  | 5 => ("RedSky$Reading", "counted", "LRedSky$Days;", true)
  | 6 => ("RedSky$Reading", "cases", "LRedSky$Days;", true)
  | 7 => ("RedSky$Reading", "right", "LRedSky$Days;", true)
  | 8 => ("RedSky$Reading", "fulfilled", "LRedSky$Days;", true)
  | 9 => ("RedSky$Reading", "known", "LRedSky$Days;", true)
  | _ => ("RedSky$Reading", "holds", "LRedSky$Days;", true)
def ty8 : Nat → FieldType := fun k => match k with
  | 0 => (.object "RedSky$Days")
  | 1 => (.object "RedSky$Days")
  | 2 => (.object "RedSky$Days")
  | 3 => (.object "RedSky$Days")
  | 4 => (.object "RedSky$Days")
  | 5 => (.object "RedSky$Days")
  | 6 => (.object "RedSky$Days")
  | 7 => (.object "RedSky$Days")
  | 8 => (.object "RedSky$Days")
  | 9 => (.object "RedSky$Days")
  | _ => (.object "RedSky$Days")
theorem nm8 : ∀ a, a < 11 → ∀ b, b < 11 → a ≠ b → (T8 a).2.1 ≠ (T8 b).2.1 := by decide +kernel
theorem ty8_ok : ∀ k, k < 11 → parseFieldDescriptor (T8 k).2.2.1 = some (ty8 k) := by decide +kernel
theorem in8 : ∀ w ∈ u_ws R8 T8 11, w ∈ lw_tbl := by decide +kernel
def R9 : String := "RedSky$Learner"
def T9 : u_T := fun k => match k with
  | 0 => ("RedSky$Learner", "done", "I", false)
  | 1 => ("RedSky$Learner", "learnedRight", "I", false)
  | 2 => ("RedSky$Learner", "tells", "[LRedSky$Days;", true)
  | 3 => ("RedSky$Learner", "learned", "LRedSky$Days;", true)
  | 4 => ("RedSky$Learner", "judged", "LRedSky$Days;", true)
  | 5 => ("RedSky$Learner", "fulfilled", "LRedSky$Days;", true)
  | 6 => ("RedSky$Learner", "rest", "LRedSky$Days;", true)
  | 7 => ("RedSky$Learner", "told", "LRedSky$Days;", true)
  | 8 => ("RedSky$Learner", "tried", "[I", true)
  | 9 => ("RedSky$Learner", "best", "[I", true)
  | 10 => ("RedSky$Learner", "yes", "[Z", true)
  | 11 => ("RedSky$Learner", "entries", "I", false)
  | 12 => ("RedSky$Learner", "lastYes", "Z", false)
  | 13 => ("RedSky$Learner", "learnedDays", "I", false)
  | 14 => ("RedSky$Learner", "judgedDays", "I", false)
  | _ => ("RedSky$Learner", "judgedRight", "I", false)
def ty9 : Nat → FieldType := fun k => match k with
  | 0 => .int
  | 1 => .int
  | 2 => (.array (.object "RedSky$Days"))
  | 3 => (.object "RedSky$Days")
  | 4 => (.object "RedSky$Days")
  | 5 => (.object "RedSky$Days")
  | 6 => (.object "RedSky$Days")
  | 7 => (.object "RedSky$Days")
  | 8 => (.array .int)
  | 9 => (.array .int)
  | 10 => (.array .boolean)
  | 11 => .int
  | 12 => .boolean
  | 13 => .int
  | 14 => .int
  | _ => .int
theorem nm9 : ∀ a, a < 16 → ∀ b, b < 16 → a ≠ b → (T9 a).2.1 ≠ (T9 b).2.1 := by decide +kernel
theorem ty9_ok : ∀ k, k < 16 → parseFieldDescriptor (T9 k).2.2.1 = some (ty9 k) := by decide +kernel
theorem in9 : ∀ w ∈ u_ws R9 T9 16, w ∈ lw_tbl := by decide +kernel
def R10 : String := "RedSky$Almanac"
def T10 : u_T := fun k => match k with
  | 0 => ("RedSky$Almanac", "years", "I", false)
  | 1 => ("RedSky$Almanac", "told", "LRedSky$Days;", true)
  | _ => ("RedSky$Almanac", "wet", "LRedSky$Days;", true)
def ty10 : Nat → FieldType := fun k => match k with
  | 0 => .int
  | 1 => (.object "RedSky$Days")
  | _ => (.object "RedSky$Days")
theorem nm10 : ∀ a, a < 3 → ∀ b, b < 3 → a ≠ b → (T10 a).2.1 ≠ (T10 b).2.1 := by decide +kernel
theorem ty10_ok : ∀ k, k < 3 → parseFieldDescriptor (T10 k).2.2.1 = some (ty10 k) := by decide +kernel
theorem in10 : ∀ w ∈ u_ws R10 T10 3, w ∈ lw_tbl := by decide +kernel
def R11 : String := "RedSky$Likeness"
def T11 : u_T := fun k => match k with
  | 0 => ("RedSky$Likeness", "common", "I", false)
  | 1 => ("RedSky$Likeness", "shared", "I", false)
  | 2 => ("RedSky$Likeness", "oneWrong", "I", false)
  | 3 => ("RedSky$Likeness", "otherWrong", "I", false)
  | 4 => ("RedSky$Likeness", "rainKnown", "LRedSky$Days;", true)
  | 5 => ("RedSky$Likeness", "rainy", "LRedSky$Days;", true)
  | 6 => ("RedSky$Likeness", "asked", "LRedSky$Days;", true)
  | 7 => ("RedSky$Likeness", "wrongOfOne", "LRedSky$Days;", true)
  | _ => ("RedSky$Likeness", "wrongOfOther", "LRedSky$Days;", true)
def ty11 : Nat → FieldType := fun k => match k with
  | 0 => .int
  | 1 => .int
  | 2 => .int
  | 3 => .int
  | 4 => (.object "RedSky$Days")
  | 5 => (.object "RedSky$Days")
  | 6 => (.object "RedSky$Days")
  | 7 => (.object "RedSky$Days")
  | _ => (.object "RedSky$Days")
theorem nm11 : ∀ a, a < 9 → ∀ b, b < 9 → a ≠ b → (T11 a).2.1 ≠ (T11 b).2.1 := by decide +kernel
theorem ty11_ok : ∀ k, k < 9 → parseFieldDescriptor (T11 k).2.2.1 = some (ty11 k) := by decide +kernel
theorem in11 : ∀ w ∈ u_ws R11 T11 9, w ∈ lw_tbl := by decide +kernel
def R12 : String := "RedSkyModel"
def T12 : u_T := fun k => match k with
  | 0 => ("RedSkyModel", "first", "I", false)
  | 1 => ("RedSkyModel", "saintMonth", "[I", true)
  | 2 => ("RedSkyModel", "saintDate", "[I", true)
  | 3 => ("RedSkyModel", "saintYear", "[I", true)
  | 4 => ("RedSkyModel", "saintMoved", "[I", true)
  | 5 => ("RedSkyModel", "fields", "[I", true)
  | 6 => ("RedSkyModel", "ages", "[I", true)
  | 7 => ("RedSkyModel", "words", "[I", true)
  | 8 => ("RedSkyModel", "page", "[I", true)
  | 9 => ("RedSkyModel", "pageMany", "I", false)
  | 10 => ("RedSkyModel", "state", "I", false)
  | 11 => ("RedSkyModel", "part", "I", false)
  | 12 => ("RedSkyModel", "depth", "I", false)
  | 13 => ("RedSkyModel", "figures", "I", false)
  | 14 => ("RedSkyModel", "value", "I", false)
  | 15 => ("RedSkyModel", "isBelow", "Z", false)
  | 16 => ("RedSkyModel", "field", "I", false)
  | 17 => ("RedSkyModel", "sign", "I", false)
  | 18 => ("RedSkyModel", "spanFrom", "I", false)
  | 19 => ("RedSkyModel", "spanTo", "I", false)
  | 20 => ("RedSkyModel", "isAll", "Z", false)
  | 21 => ("RedSkyModel", "monthFrom", "I", false)
  | 22 => ("RedSkyModel", "monthTo", "I", false)
  | 23 => ("RedSkyModel", "saint", "I", false)
  | 24 => ("RedSkyModel", "marks", "[I", true)
  | 25 => ("RedSkyModel", "numbers", "[I", true)
  | 26 => ("RedSkyModel", "markMany", "[I", true)
  | 27 => ("RedSkyModel", "waits", "[I", true)
  | 28 => ("RedSkyModel", "waiting", "I", false)
  | 29 => ("RedSkyModel", "sayings", "I", false)
  | 30 => ("RedSkyModel", "told", "[I", true)
  | 31 => ("RedSkyModel", "saidMarks", "[I", true)
  | 32 => ("RedSkyModel", "saidNumbers", "[I", true)
  | 33 => ("RedSkyModel", "saidMany", "[I", true)
  | 34 => ("RedSkyModel", "termDeep", "[I", true)
  | 35 => ("RedSkyModel", "terms", "[I", true)
  | 36 => ("RedSkyModel", "factorDeep", "[I", true)
  | 37 => ("RedSkyModel", "factors", "[I", true)
  | 38 => ("RedSkyModel", "ahead", "[I", true)
  | 39 => ("RedSkyModel", "stack", "[Z", true)
  | 40 => ("RedSkyModel", "learned", "I", false)
  | 41 => ("RedSkyModel", "hasList", "Z", false)
  | 42 => ("RedSkyModel", "tells", "[I", true)
  | 43 => ("RedSkyModel", "comes", "[I", true)
  | 44 => ("RedSkyModel", "entries", "[I", true)
  | 45 => ("RedSkyModel", "entryMany", "I", false)
  | 46 => ("RedSkyModel", "listTold", "[I", true)
  | 47 => ("RedSkyModel", "toldBy", "[I", true)
  | _ => ("RedSkyModel", "trueBy", "[I", true)
def ty12 : Nat → FieldType := fun k => match k with
  | 0 => .int
  | 1 => (.array .int)
  | 2 => (.array .int)
  | 3 => (.array .int)
  | 4 => (.array .int)
  | 5 => (.array .int)
  | 6 => (.array .int)
  | 7 => (.array .int)
  | 8 => (.array .int)
  | 9 => .int
  | 10 => .int
  | 11 => .int
  | 12 => .int
  | 13 => .int
  | 14 => .int
  | 15 => .boolean
  | 16 => .int
  | 17 => .int
  | 18 => .int
  | 19 => .int
  | 20 => .boolean
  | 21 => .int
  | 22 => .int
  | 23 => .int
  | 24 => (.array .int)
  | 25 => (.array .int)
  | 26 => (.array .int)
  | 27 => (.array .int)
  | 28 => .int
  | 29 => .int
  | 30 => (.array .int)
  | 31 => (.array .int)
  | 32 => (.array .int)
  | 33 => (.array .int)
  | 34 => (.array .int)
  | 35 => (.array .int)
  | 36 => (.array .int)
  | 37 => (.array .int)
  | 38 => (.array .int)
  | 39 => (.array .boolean)
  | 40 => .int
  | 41 => .boolean
  | 42 => (.array .int)
  | 43 => (.array .int)
  | 44 => (.array .int)
  | 45 => .int
  | 46 => (.array .int)
  | 47 => (.array .int)
  | _ => (.array .int)
theorem nm12 : ∀ a, a < 49 → ∀ b, b < 49 → a ≠ b → (T12 a).2.1 ≠ (T12 b).2.1 := by decide +kernel
theorem ty12_ok : ∀ k, k < 49 → parseFieldDescriptor (T12 k).2.2.1 = some (ty12 k) := by decide +kernel
theorem in12 : ∀ w ∈ u_ws R12 T12 49, w ∈ lw_tbl := by decide +kernel
def kc : List vw_C := [(R0, T0, 12), (R1, T1, 5), (R2, T2, 1), (R3, T3, 17), (R4, T4, 8), (R5, T5, 6), (R6, T6, 1), (R7, T7, 1), (R8, T8, 11), (R9, T9, 16), (R10, T10, 3), (R11, T11, 9), (R12, T12, 49)]
/-- which slots of a kind hold references -/
def rtab : List (List Nat) := [[1, 1, 1, 1, 0, 1, 1, 1, 1, 1, 1, 1], [0, 1, 1, 1, 1], [1], [0, 1, 1, 1, 0, 0, 0, 0, 0, 0, 0, 0, 1, 1, 1, 1, 1], [1, 1, 0, 0, 0, 0, 0, 0], [1, 1, 0, 0, 0, 0], [1], [1], [1, 1, 1, 1, 1, 1, 1, 1, 1, 1, 1], [0, 0, 1, 1, 1, 1, 1, 1, 1, 1, 1, 0, 0, 0, 0, 0], [0, 1, 1], [0, 0, 0, 0, 1, 1, 1, 1, 1], [0, 1, 1, 1, 1, 1, 1, 1, 1, 0, 0, 0, 0, 0, 0, 0, 0, 0, 0, 0, 0, 0, 0, 0, 1, 1, 1, 1, 0, 0, 1, 1, 1, 1, 1, 1, 1, 1, 1, 1, 0, 0, 1, 1, 1, 0, 1, 1, 1]]
