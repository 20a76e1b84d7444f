def isNest : Cond → Bool
  | .methodLinkNest _ _ _ _ => true
  | .arrayOver _ => true
  | .castable _ _ => true
  | _ => false
/-- the words that every method of this claim is read over: all that stay true while the run goes on -/
def UW : List Cond := lw_tbl.filter (fun w => goodWord w || isNest w)
theorem uw_in {w : Cond} (h : w ∈ lw_tbl) (g : (goodWord w || isNest w) = true) : w ∈ UW := List.mem_filter.mpr ⟨h, g⟩
theorem in_1 : ∀ w, w ∈ tables_1_1 → w ∈ lw_tbl := fun _ h => List.mem_append_right _ (List.mem_append_left _ h)
theorem in_2 : ∀ w, w ∈ tables_1_2 → w ∈ lw_tbl := fun _ h => List.mem_append_right _ (List.mem_append_right _ (List.mem_append_left _ h))
theorem in_3 : ∀ w, w ∈ tables_1_3 → w ∈ lw_tbl := fun _ h => List.mem_append_right _ (List.mem_append_right _ (List.mem_append_right _ (List.mem_append_left _ h)))
theorem in_4 : ∀ w, w ∈ tables_1_4 → w ∈ lw_tbl := fun _ h => List.mem_append_right _ (List.mem_append_right _ (List.mem_append_right _ (List.mem_append_right _ (List.mem_append_left _ h))))
theorem in_5 : ∀ w, w ∈ tables_1_5 → w ∈ lw_tbl := fun _ h => List.mem_append_right _ (List.mem_append_right _ (List.mem_append_right _ (List.mem_append_right _ (List.mem_append_right _ (List.mem_append_left _ h)))))
theorem in_6 : ∀ w, w ∈ tables_1_6 → w ∈ lw_tbl := fun _ h => List.mem_append_right _ (List.mem_append_right _ (List.mem_append_right _ (List.mem_append_right _ (List.mem_append_right _ (List.mem_append_right _ (List.mem_append_left _ h))))))
theorem in_7 : ∀ w, w ∈ tables_1_7 → w ∈ lw_tbl := fun _ h => List.mem_append_right _ (List.mem_append_right _ (List.mem_append_right _ (List.mem_append_right _ (List.mem_append_right _ (List.mem_append_right _ (List.mem_append_right _ (List.mem_append_left _ h)))))))
theorem in_8 : ∀ w, w ∈ tables_1_8 → w ∈ lw_tbl := fun _ h => List.mem_append_right _ (List.mem_append_right _ (List.mem_append_right _ (List.mem_append_right _ (List.mem_append_right _ (List.mem_append_right _ (List.mem_append_right _ (List.mem_append_right _ (List.mem_append_left _ h))))))))
theorem in_9 : ∀ w, w ∈ tables_1_9 → w ∈ lw_tbl := fun _ h => List.mem_append_right _ (List.mem_append_right _ (List.mem_append_right _ (List.mem_append_right _ (List.mem_append_right _ (List.mem_append_right _ (List.mem_append_right _ (List.mem_append_right _ (List.mem_append_right _ (h)))))))))
theorem in_0 : ∀ w, w ∈ k2_sels lw_privs → w ∈ lw_tbl := fun _ h => List.mem_append_left _ h
def TX0 : u_T := fun k => match k with
  | 0 => ("CribbageRoom$CribSum", "ways", "[[J", true)
  | 1 => ("CribbageRoom$CribSum", "freeOfRank", "[I", true)
  | 2 => ("CribbageRoom$CribSum", "freeOfSuit", "[I", true)
  | 3 => ("CribbageRoom$CribSum", "ranks", "[I", true)
  | 4 => ("CribbageRoom$CribSum", "worth", "LCribbageRoom$Worth;", false)
  | 5 => ("CribbageRoom$CribSum", "one", "I", false)
  | 6 => ("CribbageRoom$CribSum", "other", "I", false)
  | _ => ("CribbageRoom$CribSum", "free", "I", false)
def tyX0 : Nat → FieldType := fun k => match k with
  | 0 => .array (.array (.long))
  | 1 => .array (.int)
  | 2 => .array (.int)
  | 3 => .array (.int)
  | 4 => .object "CribbageRoom$Worth"
  | 5 => .int
  | 6 => .int
  | _ => .int
theorem nmX0 : ∀ a, a < 8 → ∀ b, b < 8 → a ≠ b → (TX0 a).2.1 ≠ (TX0 b).2.1 := by decide +kernel
theorem tyX0_ok : ∀ k, k < 8 → parseFieldDescriptor (TX0 k).2.2.1 = some (tyX0 k) := by decide +kernel
def TX1 : u_T := fun k => match k with
  | 0 => ("CribbageRoom$Ending", "tables", "[LCribbageRoom$Table;", true)
  | _ => ("CribbageRoom$Ending", "card", "I", false)
def tyX1 : Nat → FieldType := fun k => match k with
  | 0 => .array (.object "CribbageRoom$Table")
  | _ => .int
theorem nmX1 : ∀ a, a < 2 → ∀ b, b < 2 → a ≠ b → (TX1 a).2.1 ≠ (TX1 b).2.1 := by decide +kernel
theorem tyX1_ok : ∀ k, k < 2 → parseFieldDescriptor (TX1 k).2.2.1 = some (tyX1 k) := by decide +kernel
def TX2 : u_T := fun k => match k with
  | 0 => ("CribbageRoom$Four", "cards", "[I", true)
  | 1 => ("CribbageRoom$Four", "ranks", "[I", true)
  | 2 => ("CribbageRoom$Four", "pairsByRank", "[I", true)
  | 3 => ("CribbageRoom$Four", "runsByRank", "[I", true)
  | 4 => ("CribbageRoom$Four", "fifteensByValue", "[I", true)
  | 5 => ("CribbageRoom$Four", "worth", "LCribbageRoom$Worth;", false)
  | 6 => ("CribbageRoom$Four", "place", "I", false)
  | 7 => ("CribbageRoom$Four", "fifteens", "I", false)
  | 8 => ("CribbageRoom$Four", "suit", "I", false)
  | _ => ("CribbageRoom$Four", "jacks", "J", false)
def tyX2 : Nat → FieldType := fun k => match k with
  | 0 => .array (.int)
  | 1 => .array (.int)
  | 2 => .array (.int)
  | 3 => .array (.int)
  | 4 => .array (.int)
  | 5 => .object "CribbageRoom$Worth"
  | 6 => .int
  | 7 => .int
  | 8 => .int
  | _ => .long
theorem nmX2 : ∀ a, a < 10 → ∀ b, b < 10 → a ≠ b → (TX2 a).2.1 ≠ (TX2 b).2.1 := by decide +kernel
theorem tyX2_ok : ∀ k, k < 10 → parseFieldDescriptor (TX2 k).2.2.1 = some (tyX2 k) := by decide +kernel
def TX3 : u_T := fun k => match k with
  | 0 => ("CribbageRoom$Fours", "counts", "[[I", true)
  | 1 => ("CribbageRoom$Fours", "lower", "[I", true)
  | 2 => ("CribbageRoom$Fours", "higher", "[I", true)
  | _ => ("CribbageRoom$Fours", "six", "J", false)
def tyX3 : Nat → FieldType := fun k => match k with
  | 0 => .array (.array (.int))
  | 1 => .array (.int)
  | 2 => .array (.int)
  | _ => .long
theorem nmX3 : ∀ a, a < 4 → ∀ b, b < 4 → a ≠ b → (TX3 a).2.1 ≠ (TX3 b).2.1 := by decide +kernel
theorem tyX3_ok : ∀ k, k < 4 → parseFieldDescriptor (TX3 k).2.2.1 = some (tyX3 k) := by decide +kernel
def TX4 : u_T := fun k => match k with
  | 0 => ("CribbageRoom$History", "tables", "[LCribbageRoom$Table;", true)
  | 1 => ("CribbageRoom$History", "kinds", "[I", true)
  | 2 => ("CribbageRoom$History", "first", "I", false)
  | _ => ("CribbageRoom$History", "size", "I", false)
def tyX4 : Nat → FieldType := fun k => match k with
  | 0 => .array (.object "CribbageRoom$Table")
  | 1 => .array (.int)
  | 2 => .int
  | _ => .int
theorem nmX4 : ∀ a, a < 4 → ∀ b, b < 4 → a ≠ b → (TX4 a).2.1 ≠ (TX4 b).2.1 := by decide +kernel
theorem tyX4_ok : ∀ k, k < 4 → parseFieldDescriptor (TX4 k).2.2.1 = some (tyX4 k) := by decide +kernel
def TX5 : u_T := fun k => match k with
  | 0 => ("CribbageRoom$Reader", "tape", "[I", true)
  | 1 => ("CribbageRoom$Reader", "draft", "LCribbageRoom$Text;", true)
  | 2 => ("CribbageRoom$Reader", "length", "I", false)
  | 3 => ("CribbageRoom$Reader", "fault", "I", false)
  | 4 => ("CribbageRoom$Reader", "lawful", "Z", false)
  | 5 => ("CribbageRoom$Reader", "parts", "I", false)
  | 6 => ("CribbageRoom$Reader", "place", "I", false)
  | 7 => ("CribbageRoom$Reader", "next", "I", false)
  | 8 => ("CribbageRoom$Reader", "token", "I", false)
  | _ => ("CribbageRoom$Reader", "value", "I", false)
def tyX5 : Nat → FieldType := fun k => match k with
  | 0 => .array (.int)
  | 1 => .object "CribbageRoom$Text"
  | 2 => .int
  | 3 => .int
  | 4 => .boolean
  | 5 => .int
  | 6 => .int
  | 7 => .int
  | 8 => .int
  | _ => .int
theorem nmX5 : ∀ a, a < 10 → ∀ b, b < 10 → a ≠ b → (TX5 a).2.1 ≠ (TX5 b).2.1 := by decide +kernel
theorem tyX5_ok : ∀ k, k < 10 → parseFieldDescriptor (TX5 k).2.2.1 = some (tyX5 k) := by decide +kernel
def TX6 : u_T := fun k => match k with
  | 0 => ("CribbageRoom$State", "table", "LCribbageRoom$Table;", true)
  | 1 => ("CribbageRoom$State", "seenStarters", "[I", true)
  | 2 => ("CribbageRoom$State", "seenCounts", "[I", true)
  | 3 => ("CribbageRoom$State", "laws", "[LCribbageRoom$Text;", true)
  | 4 => ("CribbageRoom$State", "otherTerms", "[I", true)
  | 5 => ("CribbageRoom$State", "held", "J", false)
  | 6 => ("CribbageRoom$State", "seenCount", "I", false)
  | 7 => ("CribbageRoom$State", "lawCount", "I", false)
  | 8 => ("CribbageRoom$State", "inForce", "I", false)
  | _ => ("CribbageRoom$State", "kept", "Z", false)
def tyX6 : Nat → FieldType := fun k => match k with
  | 0 => .object "CribbageRoom$Table"
  | 1 => .array (.int)
  | 2 => .array (.int)
  | 3 => .array (.object "CribbageRoom$Text")
  | 4 => .array (.int)
  | 5 => .long
  | 6 => .int
  | 7 => .int
  | 8 => .int
  | _ => .boolean
theorem nmX6 : ∀ a, a < 10 → ∀ b, b < 10 → a ≠ b → (TX6 a).2.1 ≠ (TX6 b).2.1 := by decide +kernel
theorem tyX6_ok : ∀ k, k < 10 → parseFieldDescriptor (TX6 k).2.2.1 = some (tyX6 k) := by decide +kernel
def TX7 : u_T := fun k => match k with
  | 0 => ("CribbageRoom$Sums", "words", "[I", true)
  | 1 => ("CribbageRoom$Sums", "stack", "[J", true)
  | 2 => ("CribbageRoom$Sums", "first", "I", false)
  | 3 => ("CribbageRoom$Sums", "second", "I", false)
  | 4 => ("CribbageRoom$Sums", "height", "I", false)
  | _ => ("CribbageRoom$Sums", "answer", "I", false)
def tyX7 : Nat → FieldType := fun k => match k with
  | 0 => .array (.int)
  | 1 => .array (.long)
  | 2 => .int
  | 3 => .int
  | 4 => .int
  | _ => .int
theorem nmX7 : ∀ a, a < 6 → ∀ b, b < 6 → a ≠ b → (TX7 a).2.1 ≠ (TX7 b).2.1 := by decide +kernel
theorem tyX7_ok : ∀ k, k < 6 → parseFieldDescriptor (TX7 k).2.2.1 = some (tyX7 k) := by decide +kernel
def TX8 : u_T := fun k => match k with
  | 0 => ("CribbageRoom$Table", "hands", "[J", true)
  | 1 => ("CribbageRoom$Table", "pegs", "[I", true)
  | 2 => ("CribbageRoom$Table", "line", "[I", true)
  | 3 => ("CribbageRoom$Table", "crib", "J", false)
  | 4 => ("CribbageRoom$Table", "gone", "J", false)
  | 5 => ("CribbageRoom$Table", "phase", "I", false)
  | 6 => ("CribbageRoom$Table", "dealer", "I", false)
  | 7 => ("CribbageRoom$Table", "starter", "I", false)
  | 8 => ("CribbageRoom$Table", "lineLength", "I", false)
  | 9 => ("CribbageRoom$Table", "total", "I", false)
  | 10 => ("CribbageRoom$Table", "turn", "I", false)
  | 11 => ("CribbageRoom$Table", "last", "I", false)
  | _ => ("CribbageRoom$Table", "number", "I", false)
def tyX8 : Nat → FieldType := fun k => match k with
  | 0 => .array (.long)
  | 1 => .array (.int)
  | 2 => .array (.int)
  | 3 => .long
  | 4 => .long
  | 5 => .int
  | 6 => .int
  | 7 => .int
  | 8 => .int
  | 9 => .int
  | 10 => .int
  | 11 => .int
  | _ => .int
theorem nmX8 : ∀ a, a < 13 → ∀ b, b < 13 → a ≠ b → (TX8 a).2.1 ≠ (TX8 b).2.1 := by decide +kernel
theorem tyX8_ok : ∀ k, k < 13 → parseFieldDescriptor (TX8 k).2.2.1 = some (tyX8 k) := by decide +kernel
def TX9 : u_T := fun k => match k with
  | 0 => ("CribbageRoom$Text", "code", "[I", true)
  | 1 => ("CribbageRoom$Text", "clauses", "[I", true)
  | 2 => ("CribbageRoom$Text", "length", "I", false)
  | 3 => ("CribbageRoom$Text", "clauseCount", "I", false)
  | _ => ("CribbageRoom$Text", "changing", "Z", false)
def tyX9 : Nat → FieldType := fun k => match k with
  | 0 => .array (.int)
  | 1 => .array (.int)
  | 2 => .int
  | 3 => .int
  | _ => .boolean
theorem nmX9 : ∀ a, a < 5 → ∀ b, b < 5 → a ≠ b → (TX9 a).2.1 ≠ (TX9 b).2.1 := by decide +kernel
theorem tyX9_ok : ∀ k, k < 5 → parseFieldDescriptor (TX9 k).2.2.1 = some (tyX9 k) := by decide +kernel
def TX10 : u_T := fun k => match k with
  | 0 => ("CribbageRoom$Worth", "sums", "LCribbageRoom$Sums;", true)
  | 1 => ("CribbageRoom$Worth", "values", "[I", true)
  | 2 => ("CribbageRoom$Worth", "counts", "[[I", true)
  | 3 => ("CribbageRoom$Worth", "barred", "J", false)
  | 4 => ("CribbageRoom$Worth", "target", "I", false)
  | 5 => ("CribbageRoom$Worth", "ready", "Z", false)
  | 6 => ("CribbageRoom$Worth", "law", "LCribbageRoom$Text;", false)
  | 7 => ("CribbageRoom$Worth", "deal", "I", false)
  | _ => ("CribbageRoom$Worth", "mood", "I", false)
def tyX10 : Nat → FieldType := fun k => match k with
  | 0 => .object "CribbageRoom$Sums"
  | 1 => .array (.int)
  | 2 => .array (.array (.int))
  | 3 => .long
  | 4 => .int
  | 5 => .boolean
  | 6 => .object "CribbageRoom$Text"
  | 7 => .int
  | _ => .int
theorem nmX10 : ∀ a, a < 9 → ∀ b, b < 9 → a ≠ b → (TX10 a).2.1 ≠ (TX10 b).2.1 := by decide +kernel
theorem tyX10_ok : ∀ k, k < 9 → parseFieldDescriptor (TX10 k).2.2.1 = some (tyX10 k) := by decide +kernel
def TX11 : u_T := fun k => match k with
  | 0 => ("CribbageRoom", "now", "LCribbageRoom$State;", true)
  | 1 => ("CribbageRoom", "images", "[LCribbageRoom$State;", true)
  | 2 => ("CribbageRoom", "history", "LCribbageRoom$History;", true)
  | 3 => ("CribbageRoom", "historyBefore", "LCribbageRoom$History;", true)
  | 4 => ("CribbageRoom", "tableBefore", "LCribbageRoom$Table;", true)
  | 5 => ("CribbageRoom", "paper", "LCribbageRoom$Table;", true)
  | 6 => ("CribbageRoom", "reader", "LCribbageRoom$Reader;", true)
  | 7 => ("CribbageRoom", "sums", "LCribbageRoom$Sums;", true)
  | 8 => ("CribbageRoom", "worth", "LCribbageRoom$Worth;", true)
  | 9 => ("CribbageRoom", "otherWorth", "LCribbageRoom$Worth;", true)
  | 10 => ("CribbageRoom", "four", "LCribbageRoom$Four;", true)
  | 11 => ("CribbageRoom", "fours", "LCribbageRoom$Fours;", true)
  | 12 => ("CribbageRoom", "cribSum", "LCribbageRoom$CribSum;", true)
  | 13 => ("CribbageRoom", "ending", "LCribbageRoom$Ending;", true)
  | 14 => ("CribbageRoom", "refused", "[I", true)
  | 15 => ("CribbageRoom", "pegsDrawn", "[I", true)
  | 16 => ("CribbageRoom", "latestStatus", "I", false)
  | 17 => ("CribbageRoom", "latestJokers", "I", false)
  | _ => ("CribbageRoom", "latestStop", "I", false)
def tyX11 : Nat → FieldType := fun k => match k with
  | 0 => .object "CribbageRoom$State"
  | 1 => .array (.object "CribbageRoom$State")
  | 2 => .object "CribbageRoom$History"
  | 3 => .object "CribbageRoom$History"
  | 4 => .object "CribbageRoom$Table"
  | 5 => .object "CribbageRoom$Table"
  | 6 => .object "CribbageRoom$Reader"
  | 7 => .object "CribbageRoom$Sums"
  | 8 => .object "CribbageRoom$Worth"
  | 9 => .object "CribbageRoom$Worth"
  | 10 => .object "CribbageRoom$Four"
  | 11 => .object "CribbageRoom$Fours"
  | 12 => .object "CribbageRoom$CribSum"
  | 13 => .object "CribbageRoom$Ending"
  | 14 => .array (.int)
  | 15 => .array (.int)
  | 16 => .int
  | 17 => .int
  | _ => .int
theorem nmX11 : ∀ a, a < 19 → ∀ b, b < 19 → a ≠ b → (TX11 a).2.1 ≠ (TX11 b).2.1 := by decide +kernel
theorem tyX11_ok : ∀ k, k < 19 → parseFieldDescriptor (TX11 k).2.2.1 = some (tyX11 k) := by decide +kernel
def TX12 : u_T := fun k => match k with
  | 0 => ("CribbageRoomModel", "thrown", "I", false)
  | 1 => ("CribbageRoomModel", "status", "I", false)
  | 2 => ("CribbageRoomModel", "refusals", "[I", true)
  | 3 => ("CribbageRoomModel", "row", "[I", true)
  | 4 => ("CribbageRoomModel", "images", "[I", true)
  | 5 => ("CribbageRoomModel", "isKept", "[Z", true)
  | 6 => ("CribbageRoomModel", "undos", "[I", true)
  | 7 => ("CribbageRoomModel", "sorts", "[I", true)
  | 8 => ("CribbageRoomModel", "nUndo", "I", false)
  | 9 => ("CribbageRoomModel", "undosBefore", "[I", true)
  | 10 => ("CribbageRoomModel", "sortsBefore", "[I", true)
  | 11 => ("CribbageRoomModel", "jokers", "I", false)
  | 12 => ("CribbageRoomModel", "tape", "[I", true)
  | 13 => ("CribbageRoomModel", "taped", "I", false)
  | 14 => ("CribbageRoomModel", "from", "I", false)
  | 15 => ("CribbageRoomModel", "to", "I", false)
  | 16 => ("CribbageRoomModel", "sort", "I", false)
  | 17 => ("CribbageRoomModel", "worth", "J", false)
  | 18 => ("CribbageRoomModel", "fault", "I", false)
  | 19 => ("CribbageRoomModel", "bad", "Z", false)
  | 20 => ("CribbageRoomModel", "ordered", "Z", false)
  | 21 => ("CribbageRoomModel", "nClauses", "I", false)
  | 22 => ("CribbageRoomModel", "nClause", "[I", true)
  | 23 => ("CribbageRoomModel", "nCode", "I", false)
  | 24 => ("CribbageRoomModel", "nOp", "[I", true)
  | 25 => ("CribbageRoomModel", "nArg", "[I", true)
  | 26 => ("CribbageRoomModel", "nLeaves", "I", false)
  | 27 => ("CribbageRoomModel", "pile", "[I", true)
  | 28 => ("CribbageRoomModel", "pileAt", "[I", true)
  | 29 => ("CribbageRoomModel", "piled", "I", false)
  | 30 => ("CribbageRoomModel", "opened", "I", false)
  | 31 => ("CribbageRoomModel", "words", "[J", true)
  | 32 => ("CribbageRoomModel", "orderWords", "[J", true)
  | 33 => ("CribbageRoomModel", "heads", "[J", true)
  | 34 => ("CribbageRoomModel", "law", "I", false)
  | 35 => ("CribbageRoomModel", "set", "[J", true)
  | 36 => ("CribbageRoomModel", "now", "[J", true)
  | 37 => ("CribbageRoomModel", "rest", "[J", true)
  | 38 => ("CribbageRoomModel", "broken", "Z", false)
  | 39 => ("CribbageRoomModel", "value", "J", false)
  | 40 => ("CribbageRoomModel", "sum", "J", false)
  | 41 => ("CribbageRoomModel", "values", "[I", true)
  | 42 => ("CribbageRoomModel", "fifteens", "[I", true)
  | 43 => ("CribbageRoomModel", "pairs", "[I", true)
  | 44 => ("CribbageRoomModel", "runs", "[I", true)
  | 45 => ("CribbageRoomModel", "flushes", "[I", true)
  | 46 => ("CribbageRoomModel", "nobs", "[I", true)
  | 47 => ("CribbageRoomModel", "five", "[I", true)
  | 48 => ("CribbageRoomModel", "amounts", "[I", true)
  | 49 => ("CribbageRoomModel", "byRank", "[I", true)
  | 50 => ("CribbageRoomModel", "state", "J", false)
  | 51 => ("CribbageRoomModel", "pack", "[I", true)
  | 52 => ("CribbageRoomModel", "six", "[I", true)
  | 53 => ("CribbageRoomModel", "deeps", "[I", true)
  | 54 => ("CribbageRoomModel", "cardAt", "[I", true)
  | 55 => ("CribbageRoomModel", "gainAt", "[I", true)
  | 56 => ("CribbageRoomModel", "bestAt", "[I", true)
  | 57 => ("CribbageRoomModel", "bestCard", "[I", true)
  | 58 => ("CribbageRoomModel", "countsOf", "[I", true)
  | 59 => ("CribbageRoomModel", "parts", "[J", true)
  | 60 => ("CribbageRoomModel", "acts", "[J", true)
  | 61 => ("CribbageRoomModel", "nOrder", "[I", true)
  | 62 => ("CribbageRoomModel", "done", "I", false)
  | 63 => ("CribbageRoomModel", "latest", "I", false)
  | 64 => ("CribbageRoomModel", "stopped", "I", false)
  | 65 => ("CribbageRoomModel", "off", "Z", false)
  | 66 => ("CribbageRoomModel", "drawn", "[I", true)
  | _ => ("CribbageRoomModel", "wasDrawn", "Z", false)
def tyX12 : Nat → FieldType := fun k => match k with
  | 0 => .int
  | 1 => .int
  | 2 => .array (.int)
  | 3 => .array (.int)
  | 4 => .array (.int)
  | 5 => .array (.boolean)
  | 6 => .array (.int)
  | 7 => .array (.int)
  | 8 => .int
  | 9 => .array (.int)
  | 10 => .array (.int)
  | 11 => .int
  | 12 => .array (.int)
  | 13 => .int
  | 14 => .int
  | 15 => .int
  | 16 => .int
  | 17 => .long
  | 18 => .int
  | 19 => .boolean
  | 20 => .boolean
  | 21 => .int
  | 22 => .array (.int)
  | 23 => .int
  | 24 => .array (.int)
  | 25 => .array (.int)
  | 26 => .int
  | 27 => .array (.int)
  | 28 => .array (.int)
  | 29 => .int
  | 30 => .int
  | 31 => .array (.long)
  | 32 => .array (.long)
  | 33 => .array (.long)
  | 34 => .int
  | 35 => .array (.long)
  | 36 => .array (.long)
  | 37 => .array (.long)
  | 38 => .boolean
  | 39 => .long
  | 40 => .long
  | 41 => .array (.int)
  | 42 => .array (.int)
  | 43 => .array (.int)
  | 44 => .array (.int)
  | 45 => .array (.int)
  | 46 => .array (.int)
  | 47 => .array (.int)
  | 48 => .array (.int)
  | 49 => .array (.int)
  | 50 => .long
  | 51 => .array (.int)
  | 52 => .array (.int)
  | 53 => .array (.int)
  | 54 => .array (.int)
  | 55 => .array (.int)
  | 56 => .array (.int)
  | 57 => .array (.int)
  | 58 => .array (.int)
  | 59 => .array (.long)
  | 60 => .array (.long)
  | 61 => .array (.int)
  | 62 => .int
  | 63 => .int
  | 64 => .int
  | 65 => .boolean
  | 66 => .array (.int)
  | _ => .boolean
theorem nmX12 : ∀ a, a < 68 → ∀ b, b < 68 → a ≠ b → (TX12 a).2.1 ≠ (TX12 b).2.1 := by decide +kernel
theorem tyX12_ok : ∀ k, k < 68 → parseFieldDescriptor (TX12 k).2.2.1 = some (tyX12 k) := by decide +kernel
abbrev cls : List vw_C := [("CribbageRoom$CribSum", TX0, 8), ("CribbageRoom$Ending", TX1, 2), ("CribbageRoom$Four", TX2, 10), ("CribbageRoom$Fours", TX3, 4), ("CribbageRoom$History", TX4, 4), ("CribbageRoom$Reader", TX5, 10), ("CribbageRoom$State", TX6, 10), ("CribbageRoom$Sums", TX7, 6), ("CribbageRoom$Table", TX8, 13), ("CribbageRoom$Text", TX9, 5), ("CribbageRoom$Worth", TX10, 9), ("CribbageRoom", TX11, 19), ("CribbageRoomModel", TX12, 68)]
theorem ly_0_0 : Cond.laysFinal "CribbageRoom$CribSum" "CribbageRoom$CribSum" "ways" "[[J" ∈ UW := uw_in (in_2 _ (List.mem_of_getElem? (i := 144) rfl)) rfl
theorem ly_0_1 : Cond.laysFinal "CribbageRoom$CribSum" "CribbageRoom$CribSum" "freeOfRank" "[I" ∈ UW := uw_in (in_2 _ (List.mem_of_getElem? (i := 146) rfl)) rfl
theorem ly_0_2 : Cond.laysFinal "CribbageRoom$CribSum" "CribbageRoom$CribSum" "freeOfSuit" "[I" ∈ UW := uw_in (in_2 _ (List.mem_of_getElem? (i := 148) rfl)) rfl
theorem ly_0_3 : Cond.laysFinal "CribbageRoom$CribSum" "CribbageRoom$CribSum" "ranks" "[I" ∈ UW := uw_in (in_2 _ (List.mem_of_getElem? (i := 150) rfl)) rfl
theorem ly_0_4 : Cond.lays "CribbageRoom$CribSum" "CribbageRoom$CribSum" "worth" "LCribbageRoom$Worth;" ∈ UW := uw_in (in_2 _ (List.mem_of_getElem? (i := 152) rfl)) rfl
theorem ly_0_5 : Cond.lays "CribbageRoom$CribSum" "CribbageRoom$CribSum" "one" "I" ∈ UW := uw_in (in_2 _ (List.mem_of_getElem? (i := 154) rfl)) rfl
theorem ly_0_6 : Cond.lays "CribbageRoom$CribSum" "CribbageRoom$CribSum" "other" "I" ∈ UW := uw_in (in_2 _ (List.mem_of_getElem? (i := 156) rfl)) rfl
theorem ly_0_7 : Cond.lays "CribbageRoom$CribSum" "CribbageRoom$CribSum" "free" "I" ∈ UW := uw_in (in_2 _ (List.mem_of_getElem? (i := 158) rfl)) rfl
theorem inX0 : ∀ w ∈ u_ws "CribbageRoom$CribSum" TX0 8, w ∈ UW := by
  intro w hw
  obtain ⟨k, hk, rfl⟩ := List.mem_map.mp hw
  replace hk := List.mem_range.mp hk
  match k, hk with
  | 0, _ => exact ly_0_0
  | 1, _ => exact ly_0_1
  | 2, _ => exact ly_0_2
  | 3, _ => exact ly_0_3
  | 4, _ => exact ly_0_4
  | 5, _ => exact ly_0_5
  | 6, _ => exact ly_0_6
  | 7, _ => exact ly_0_7
  | n + 8, h => exact absurd h (by omega)
theorem ly_1_0 : Cond.laysFinal "CribbageRoom$Ending" "CribbageRoom$Ending" "tables" "[LCribbageRoom$Table;" ∈ UW := uw_in (in_2 _ (List.mem_of_getElem? (i := 172) rfl)) rfl
theorem ly_1_1 : Cond.lays "CribbageRoom$Ending" "CribbageRoom$Ending" "card" "I" ∈ UW := uw_in (in_2 _ (List.mem_of_getElem? (i := 174) rfl)) rfl
theorem inX1 : ∀ w ∈ u_ws "CribbageRoom$Ending" TX1 2, w ∈ UW := by
  intro w hw
  obtain ⟨k, hk, rfl⟩ := List.mem_map.mp hw
  replace hk := List.mem_range.mp hk
  match k, hk with
  | 0, _ => exact ly_1_0
  | 1, _ => exact ly_1_1
  | n + 2, h => exact absurd h (by omega)
theorem ly_2_0 : Cond.laysFinal "CribbageRoom$Four" "CribbageRoom$Four" "cards" "[I" ∈ UW := uw_in (in_2 _ (List.mem_of_getElem? (i := 87) rfl)) rfl
theorem ly_2_1 : Cond.laysFinal "CribbageRoom$Four" "CribbageRoom$Four" "ranks" "[I" ∈ UW := uw_in (in_2 _ (List.mem_of_getElem? (i := 89) rfl)) rfl
theorem ly_2_2 : Cond.laysFinal "CribbageRoom$Four" "CribbageRoom$Four" "pairsByRank" "[I" ∈ UW := uw_in (in_2 _ (List.mem_of_getElem? (i := 91) rfl)) rfl
theorem ly_2_3 : Cond.laysFinal "CribbageRoom$Four" "CribbageRoom$Four" "runsByRank" "[I" ∈ UW := uw_in (in_2 _ (List.mem_of_getElem? (i := 93) rfl)) rfl
theorem ly_2_4 : Cond.laysFinal "CribbageRoom$Four" "CribbageRoom$Four" "fifteensByValue" "[I" ∈ UW := uw_in (in_2 _ (List.mem_of_getElem? (i := 95) rfl)) rfl
theorem ly_2_5 : Cond.lays "CribbageRoom$Four" "CribbageRoom$Four" "worth" "LCribbageRoom$Worth;" ∈ UW := uw_in (in_2 _ (List.mem_of_getElem? (i := 97) rfl)) rfl
theorem ly_2_6 : Cond.lays "CribbageRoom$Four" "CribbageRoom$Four" "place" "I" ∈ UW := uw_in (in_2 _ (List.mem_of_getElem? (i := 99) rfl)) rfl
theorem ly_2_7 : Cond.lays "CribbageRoom$Four" "CribbageRoom$Four" "fifteens" "I" ∈ UW := uw_in (in_2 _ (List.mem_of_getElem? (i := 101) rfl)) rfl
theorem ly_2_8 : Cond.lays "CribbageRoom$Four" "CribbageRoom$Four" "suit" "I" ∈ UW := uw_in (in_2 _ (List.mem_of_getElem? (i := 103) rfl)) rfl
theorem ly_2_9 : Cond.lays "CribbageRoom$Four" "CribbageRoom$Four" "jacks" "J" ∈ UW := uw_in (in_2 _ (List.mem_of_getElem? (i := 105) rfl)) rfl
theorem inX2 : ∀ w ∈ u_ws "CribbageRoom$Four" TX2 10, w ∈ UW := by
  intro w hw
  obtain ⟨k, hk, rfl⟩ := List.mem_map.mp hw
  replace hk := List.mem_range.mp hk
  match k, hk with
  | 0, _ => exact ly_2_0
  | 1, _ => exact ly_2_1
  | 2, _ => exact ly_2_2
  | 3, _ => exact ly_2_3
  | 4, _ => exact ly_2_4
  | 5, _ => exact ly_2_5
  | 6, _ => exact ly_2_6
  | 7, _ => exact ly_2_7
  | 8, _ => exact ly_2_8
  | 9, _ => exact ly_2_9
  | n + 10, h => exact absurd h (by omega)
theorem ly_3_0 : Cond.laysFinal "CribbageRoom$Fours" "CribbageRoom$Fours" "counts" "[[I" ∈ UW := uw_in (in_2 _ (List.mem_of_getElem? (i := 119) rfl)) rfl
theorem ly_3_1 : Cond.laysFinal "CribbageRoom$Fours" "CribbageRoom$Fours" "lower" "[I" ∈ UW := uw_in (in_2 _ (List.mem_of_getElem? (i := 121) rfl)) rfl
theorem ly_3_2 : Cond.laysFinal "CribbageRoom$Fours" "CribbageRoom$Fours" "higher" "[I" ∈ UW := uw_in (in_2 _ (List.mem_of_getElem? (i := 123) rfl)) rfl
theorem ly_3_3 : Cond.lays "CribbageRoom$Fours" "CribbageRoom$Fours" "six" "J" ∈ UW := uw_in (in_2 _ (List.mem_of_getElem? (i := 125) rfl)) rfl
theorem inX3 : ∀ w ∈ u_ws "CribbageRoom$Fours" TX3 4, w ∈ UW := by
  intro w hw
  obtain ⟨k, hk, rfl⟩ := List.mem_map.mp hw
  replace hk := List.mem_range.mp hk
  match k, hk with
  | 0, _ => exact ly_3_0
  | 1, _ => exact ly_3_1
  | 2, _ => exact ly_3_2
  | 3, _ => exact ly_3_3
  | n + 4, h => exact absurd h (by omega)
theorem ly_4_0 : Cond.laysFinal "CribbageRoom$History" "CribbageRoom$History" "tables" "[LCribbageRoom$Table;" ∈ UW := uw_in (in_1 _ (List.mem_of_getElem? (i := 159) rfl)) rfl
theorem ly_4_1 : Cond.laysFinal "CribbageRoom$History" "CribbageRoom$History" "kinds" "[I" ∈ UW := uw_in (in_1 _ (List.mem_of_getElem? (i := 161) rfl)) rfl
theorem ly_4_2 : Cond.lays "CribbageRoom$History" "CribbageRoom$History" "first" "I" ∈ UW := uw_in (in_1 _ (List.mem_of_getElem? (i := 163) rfl)) rfl
theorem ly_4_3 : Cond.lays "CribbageRoom$History" "CribbageRoom$History" "size" "I" ∈ UW := uw_in (in_1 _ (List.mem_of_getElem? (i := 165) rfl)) rfl
theorem inX4 : ∀ w ∈ u_ws "CribbageRoom$History" TX4 4, w ∈ UW := by
  intro w hw
  obtain ⟨k, hk, rfl⟩ := List.mem_map.mp hw
  replace hk := List.mem_range.mp hk
  match k, hk with
  | 0, _ => exact ly_4_0
  | 1, _ => exact ly_4_1
  | 2, _ => exact ly_4_2
  | 3, _ => exact ly_4_3
  | n + 4, h => exact absurd h (by omega)
theorem ly_5_0 : Cond.laysFinal "CribbageRoom$Reader" "CribbageRoom$Reader" "tape" "[I" ∈ UW := uw_in (in_1 _ (List.mem_of_getElem? (i := 219) rfl)) rfl
theorem ly_5_1 : Cond.laysFinal "CribbageRoom$Reader" "CribbageRoom$Reader" "draft" "LCribbageRoom$Text;" ∈ UW := uw_in (in_1 _ (List.mem_of_getElem? (i := 221) rfl)) rfl
theorem ly_5_2 : Cond.lays "CribbageRoom$Reader" "CribbageRoom$Reader" "length" "I" ∈ UW := uw_in (in_1 _ (List.mem_of_getElem? (i := 223) rfl)) rfl
theorem ly_5_3 : Cond.lays "CribbageRoom$Reader" "CribbageRoom$Reader" "fault" "I" ∈ UW := uw_in (in_1 _ (List.mem_of_getElem? (i := 225) rfl)) rfl
theorem ly_5_4 : Cond.lays "CribbageRoom$Reader" "CribbageRoom$Reader" "lawful" "Z" ∈ UW := uw_in (in_1 _ (List.mem_of_getElem? (i := 227) rfl)) rfl
theorem ly_5_5 : Cond.lays "CribbageRoom$Reader" "CribbageRoom$Reader" "parts" "I" ∈ UW := uw_in (in_1 _ (List.mem_of_getElem? (i := 229) rfl)) rfl
theorem ly_5_6 : Cond.lays "CribbageRoom$Reader" "CribbageRoom$Reader" "place" "I" ∈ UW := uw_in (in_1 _ (List.mem_of_getElem? (i := 231) rfl)) rfl
theorem ly_5_7 : Cond.lays "CribbageRoom$Reader" "CribbageRoom$Reader" "next" "I" ∈ UW := uw_in (in_1 _ (List.mem_of_getElem? (i := 233) rfl)) rfl
theorem ly_5_8 : Cond.lays "CribbageRoom$Reader" "CribbageRoom$Reader" "token" "I" ∈ UW := uw_in (in_1 _ (List.mem_of_getElem? (i := 235) rfl)) rfl
theorem ly_5_9 : Cond.lays "CribbageRoom$Reader" "CribbageRoom$Reader" "value" "I" ∈ UW := uw_in (in_1 _ (List.mem_of_getElem? (i := 237) rfl)) rfl
theorem inX5 : ∀ w ∈ u_ws "CribbageRoom$Reader" TX5 10, w ∈ UW := by
  intro w hw
  obtain ⟨k, hk, rfl⟩ := List.mem_map.mp hw
  replace hk := List.mem_range.mp hk
  match k, hk with
  | 0, _ => exact ly_5_0
  | 1, _ => exact ly_5_1
  | 2, _ => exact ly_5_2
  | 3, _ => exact ly_5_3
  | 4, _ => exact ly_5_4
  | 5, _ => exact ly_5_5
  | 6, _ => exact ly_5_6
  | 7, _ => exact ly_5_7
  | 8, _ => exact ly_5_8
  | 9, _ => exact ly_5_9
  | n + 10, h => exact absurd h (by omega)
theorem ly_6_0 : Cond.laysFinal "CribbageRoom$State" "CribbageRoom$State" "table" "LCribbageRoom$Table;" ∈ UW := uw_in (in_1 _ (List.mem_of_getElem? (i := 123) rfl)) rfl
theorem ly_6_1 : Cond.laysFinal "CribbageRoom$State" "CribbageRoom$State" "seenStarters" "[I" ∈ UW := uw_in (in_1 _ (List.mem_of_getElem? (i := 125) rfl)) rfl
theorem ly_6_2 : Cond.laysFinal "CribbageRoom$State" "CribbageRoom$State" "seenCounts" "[I" ∈ UW := uw_in (in_1 _ (List.mem_of_getElem? (i := 127) rfl)) rfl
theorem ly_6_3 : Cond.laysFinal "CribbageRoom$State" "CribbageRoom$State" "laws" "[LCribbageRoom$Text;" ∈ UW := uw_in (in_1 _ (List.mem_of_getElem? (i := 129) rfl)) rfl
theorem ly_6_4 : Cond.laysFinal "CribbageRoom$State" "CribbageRoom$State" "otherTerms" "[I" ∈ UW := uw_in (in_1 _ (List.mem_of_getElem? (i := 131) rfl)) rfl
theorem ly_6_5 : Cond.lays "CribbageRoom$State" "CribbageRoom$State" "held" "J" ∈ UW := uw_in (in_1 _ (List.mem_of_getElem? (i := 133) rfl)) rfl
theorem ly_6_6 : Cond.lays "CribbageRoom$State" "CribbageRoom$State" "seenCount" "I" ∈ UW := uw_in (in_1 _ (List.mem_of_getElem? (i := 135) rfl)) rfl
theorem ly_6_7 : Cond.lays "CribbageRoom$State" "CribbageRoom$State" "lawCount" "I" ∈ UW := uw_in (in_1 _ (List.mem_of_getElem? (i := 137) rfl)) rfl
theorem ly_6_8 : Cond.lays "CribbageRoom$State" "CribbageRoom$State" "inForce" "I" ∈ UW := uw_in (in_1 _ (List.mem_of_getElem? (i := 139) rfl)) rfl
theorem ly_6_9 : Cond.lays "CribbageRoom$State" "CribbageRoom$State" "kept" "Z" ∈ UW := uw_in (in_1 _ (List.mem_of_getElem? (i := 141) rfl)) rfl
theorem inX6 : ∀ w ∈ u_ws "CribbageRoom$State" TX6 10, w ∈ UW := by
  intro w hw
  obtain ⟨k, hk, rfl⟩ := List.mem_map.mp hw
  replace hk := List.mem_range.mp hk
  match k, hk with
  | 0, _ => exact ly_6_0
  | 1, _ => exact ly_6_1
  | 2, _ => exact ly_6_2
  | 3, _ => exact ly_6_3
  | 4, _ => exact ly_6_4
  | 5, _ => exact ly_6_5
  | 6, _ => exact ly_6_6
  | 7, _ => exact ly_6_7
  | 8, _ => exact ly_6_8
  | 9, _ => exact ly_6_9
  | n + 10, h => exact absurd h (by omega)
theorem ly_7_0 : Cond.laysFinal "CribbageRoom$Sums" "CribbageRoom$Sums" "words" "[I" ∈ UW := uw_in (in_2 _ (List.mem_of_getElem? (i := 15) rfl)) rfl
theorem ly_7_1 : Cond.laysFinal "CribbageRoom$Sums" "CribbageRoom$Sums" "stack" "[J" ∈ UW := uw_in (in_2 _ (List.mem_of_getElem? (i := 17) rfl)) rfl
theorem ly_7_2 : Cond.lays "CribbageRoom$Sums" "CribbageRoom$Sums" "first" "I" ∈ UW := uw_in (in_2 _ (List.mem_of_getElem? (i := 19) rfl)) rfl
theorem ly_7_3 : Cond.lays "CribbageRoom$Sums" "CribbageRoom$Sums" "second" "I" ∈ UW := uw_in (in_2 _ (List.mem_of_getElem? (i := 21) rfl)) rfl
theorem ly_7_4 : Cond.lays "CribbageRoom$Sums" "CribbageRoom$Sums" "height" "I" ∈ UW := uw_in (in_2 _ (List.mem_of_getElem? (i := 23) rfl)) rfl
theorem ly_7_5 : Cond.lays "CribbageRoom$Sums" "CribbageRoom$Sums" "answer" "I" ∈ UW := uw_in (in_2 _ (List.mem_of_getElem? (i := 25) rfl)) rfl
theorem inX7 : ∀ w ∈ u_ws "CribbageRoom$Sums" TX7 6, w ∈ UW := by
  intro w hw
  obtain ⟨k, hk, rfl⟩ := List.mem_map.mp hw
  replace hk := List.mem_range.mp hk
  match k, hk with
  | 0, _ => exact ly_7_0
  | 1, _ => exact ly_7_1
  | 2, _ => exact ly_7_2
  | 3, _ => exact ly_7_3
  | 4, _ => exact ly_7_4
  | 5, _ => exact ly_7_5
  | n + 6, h => exact absurd h (by omega)
theorem ly_8_0 : Cond.laysFinal "CribbageRoom$Table" "CribbageRoom$Table" "hands" "[J" ∈ UW := uw_in (in_1 _ (List.mem_of_getElem? (i := 71) rfl)) rfl
theorem ly_8_1 : Cond.laysFinal "CribbageRoom$Table" "CribbageRoom$Table" "pegs" "[I" ∈ UW := uw_in (in_1 _ (List.mem_of_getElem? (i := 73) rfl)) rfl
theorem ly_8_2 : Cond.laysFinal "CribbageRoom$Table" "CribbageRoom$Table" "line" "[I" ∈ UW := uw_in (in_1 _ (List.mem_of_getElem? (i := 75) rfl)) rfl
theorem ly_8_3 : Cond.lays "CribbageRoom$Table" "CribbageRoom$Table" "crib" "J" ∈ UW := uw_in (in_1 _ (List.mem_of_getElem? (i := 77) rfl)) rfl
theorem ly_8_4 : Cond.lays "CribbageRoom$Table" "CribbageRoom$Table" "gone" "J" ∈ UW := uw_in (in_1 _ (List.mem_of_getElem? (i := 79) rfl)) rfl
theorem ly_8_5 : Cond.lays "CribbageRoom$Table" "CribbageRoom$Table" "phase" "I" ∈ UW := uw_in (in_1 _ (List.mem_of_getElem? (i := 81) rfl)) rfl
theorem ly_8_6 : Cond.lays "CribbageRoom$Table" "CribbageRoom$Table" "dealer" "I" ∈ UW := uw_in (in_1 _ (List.mem_of_getElem? (i := 83) rfl)) rfl
theorem ly_8_7 : Cond.lays "CribbageRoom$Table" "CribbageRoom$Table" "starter" "I" ∈ UW := uw_in (in_1 _ (List.mem_of_getElem? (i := 85) rfl)) rfl
theorem ly_8_8 : Cond.lays "CribbageRoom$Table" "CribbageRoom$Table" "lineLength" "I" ∈ UW := uw_in (in_1 _ (List.mem_of_getElem? (i := 87) rfl)) rfl
theorem ly_8_9 : Cond.lays "CribbageRoom$Table" "CribbageRoom$Table" "total" "I" ∈ UW := uw_in (in_1 _ (List.mem_of_getElem? (i := 89) rfl)) rfl
theorem ly_8_10 : Cond.lays "CribbageRoom$Table" "CribbageRoom$Table" "turn" "I" ∈ UW := uw_in (in_1 _ (List.mem_of_getElem? (i := 91) rfl)) rfl
theorem ly_8_11 : Cond.lays "CribbageRoom$Table" "CribbageRoom$Table" "last" "I" ∈ UW := uw_in (in_1 _ (List.mem_of_getElem? (i := 93) rfl)) rfl
theorem ly_8_12 : Cond.lays "CribbageRoom$Table" "CribbageRoom$Table" "number" "I" ∈ UW := uw_in (in_1 _ (List.mem_of_getElem? (i := 95) rfl)) rfl
theorem inX8 : ∀ w ∈ u_ws "CribbageRoom$Table" TX8 13, w ∈ UW := by
  intro w hw
  obtain ⟨k, hk, rfl⟩ := List.mem_map.mp hw
  replace hk := List.mem_range.mp hk
  match k, hk with
  | 0, _ => exact ly_8_0
  | 1, _ => exact ly_8_1
  | 2, _ => exact ly_8_2
  | 3, _ => exact ly_8_3
  | 4, _ => exact ly_8_4
  | 5, _ => exact ly_8_5
  | 6, _ => exact ly_8_6
  | 7, _ => exact ly_8_7
  | 8, _ => exact ly_8_8
  | 9, _ => exact ly_8_9
  | 10, _ => exact ly_8_10
  | 11, _ => exact ly_8_11
  | 12, _ => exact ly_8_12
  | n + 13, h => exact absurd h (by omega)
theorem ly_9_0 : Cond.laysFinal "CribbageRoom$Text" "CribbageRoom$Text" "code" "[I" ∈ UW := uw_in (in_1 _ (List.mem_of_getElem? (i := 194) rfl)) rfl
theorem ly_9_1 : Cond.laysFinal "CribbageRoom$Text" "CribbageRoom$Text" "clauses" "[I" ∈ UW := uw_in (in_1 _ (List.mem_of_getElem? (i := 196) rfl)) rfl
theorem ly_9_2 : Cond.lays "CribbageRoom$Text" "CribbageRoom$Text" "length" "I" ∈ UW := uw_in (in_1 _ (List.mem_of_getElem? (i := 198) rfl)) rfl
theorem ly_9_3 : Cond.lays "CribbageRoom$Text" "CribbageRoom$Text" "clauseCount" "I" ∈ UW := uw_in (in_1 _ (List.mem_of_getElem? (i := 200) rfl)) rfl
theorem ly_9_4 : Cond.lays "CribbageRoom$Text" "CribbageRoom$Text" "changing" "Z" ∈ UW := uw_in (in_1 _ (List.mem_of_getElem? (i := 202) rfl)) rfl
theorem inX9 : ∀ w ∈ u_ws "CribbageRoom$Text" TX9 5, w ∈ UW := by
  intro w hw
  obtain ⟨k, hk, rfl⟩ := List.mem_map.mp hw
  replace hk := List.mem_range.mp hk
  match k, hk with
  | 0, _ => exact ly_9_0
  | 1, _ => exact ly_9_1
  | 2, _ => exact ly_9_2
  | 3, _ => exact ly_9_3
  | 4, _ => exact ly_9_4
  | n + 5, h => exact absurd h (by omega)
theorem ly_10_0 : Cond.laysFinal "CribbageRoom$Worth" "CribbageRoom$Worth" "sums" "LCribbageRoom$Sums;" ∈ UW := uw_in (in_2 _ (List.mem_of_getElem? (i := 52) rfl)) rfl
theorem ly_10_1 : Cond.laysFinal "CribbageRoom$Worth" "CribbageRoom$Worth" "values" "[I" ∈ UW := uw_in (in_2 _ (List.mem_of_getElem? (i := 54) rfl)) rfl
theorem ly_10_2 : Cond.laysFinal "CribbageRoom$Worth" "CribbageRoom$Worth" "counts" "[[I" ∈ UW := uw_in (in_2 _ (List.mem_of_getElem? (i := 56) rfl)) rfl
theorem ly_10_3 : Cond.lays "CribbageRoom$Worth" "CribbageRoom$Worth" "barred" "J" ∈ UW := uw_in (in_2 _ (List.mem_of_getElem? (i := 58) rfl)) rfl
theorem ly_10_4 : Cond.lays "CribbageRoom$Worth" "CribbageRoom$Worth" "target" "I" ∈ UW := uw_in (in_2 _ (List.mem_of_getElem? (i := 60) rfl)) rfl
theorem ly_10_5 : Cond.lays "CribbageRoom$Worth" "CribbageRoom$Worth" "ready" "Z" ∈ UW := uw_in (in_2 _ (List.mem_of_getElem? (i := 62) rfl)) rfl
theorem ly_10_6 : Cond.lays "CribbageRoom$Worth" "CribbageRoom$Worth" "law" "LCribbageRoom$Text;" ∈ UW := uw_in (in_2 _ (List.mem_of_getElem? (i := 64) rfl)) rfl
theorem ly_10_7 : Cond.lays "CribbageRoom$Worth" "CribbageRoom$Worth" "deal" "I" ∈ UW := uw_in (in_2 _ (List.mem_of_getElem? (i := 66) rfl)) rfl
theorem ly_10_8 : Cond.lays "CribbageRoom$Worth" "CribbageRoom$Worth" "mood" "I" ∈ UW := uw_in (in_2 _ (List.mem_of_getElem? (i := 68) rfl)) rfl
theorem inX10 : ∀ w ∈ u_ws "CribbageRoom$Worth" TX10 9, w ∈ UW := by
  intro w hw
  obtain ⟨k, hk, rfl⟩ := List.mem_map.mp hw
  replace hk := List.mem_range.mp hk
  match k, hk with
  | 0, _ => exact ly_10_0
  | 1, _ => exact ly_10_1
  | 2, _ => exact ly_10_2
  | 3, _ => exact ly_10_3
  | 4, _ => exact ly_10_4
  | 5, _ => exact ly_10_5
  | 6, _ => exact ly_10_6
  | 7, _ => exact ly_10_7
  | 8, _ => exact ly_10_8
  | n + 9, h => exact absurd h (by omega)
theorem ly_11_0 : Cond.laysFinal "CribbageRoom" "CribbageRoom" "now" "LCribbageRoom$State;" ∈ UW := uw_in (in_2 _ (List.mem_of_getElem? (i := 198) rfl)) rfl
theorem ly_11_1 : Cond.laysFinal "CribbageRoom" "CribbageRoom" "images" "[LCribbageRoom$State;" ∈ UW := uw_in (in_2 _ (List.mem_of_getElem? (i := 200) rfl)) rfl
theorem ly_11_2 : Cond.laysFinal "CribbageRoom" "CribbageRoom" "history" "LCribbageRoom$History;" ∈ UW := uw_in (in_2 _ (List.mem_of_getElem? (i := 202) rfl)) rfl
theorem ly_11_3 : Cond.laysFinal "CribbageRoom" "CribbageRoom" "historyBefore" "LCribbageRoom$History;" ∈ UW := uw_in (in_2 _ (List.mem_of_getElem? (i := 204) rfl)) rfl
theorem ly_11_4 : Cond.laysFinal "CribbageRoom" "CribbageRoom" "tableBefore" "LCribbageRoom$Table;" ∈ UW := uw_in (in_2 _ (List.mem_of_getElem? (i := 206) rfl)) rfl
theorem ly_11_5 : Cond.laysFinal "CribbageRoom" "CribbageRoom" "paper" "LCribbageRoom$Table;" ∈ UW := uw_in (in_2 _ (List.mem_of_getElem? (i := 208) rfl)) rfl
theorem ly_11_6 : Cond.laysFinal "CribbageRoom" "CribbageRoom" "reader" "LCribbageRoom$Reader;" ∈ UW := uw_in (in_2 _ (List.mem_of_getElem? (i := 210) rfl)) rfl
theorem ly_11_7 : Cond.laysFinal "CribbageRoom" "CribbageRoom" "sums" "LCribbageRoom$Sums;" ∈ UW := uw_in (in_2 _ (List.mem_of_getElem? (i := 212) rfl)) rfl
theorem ly_11_8 : Cond.laysFinal "CribbageRoom" "CribbageRoom" "worth" "LCribbageRoom$Worth;" ∈ UW := uw_in (in_2 _ (List.mem_of_getElem? (i := 214) rfl)) rfl
theorem ly_11_9 : Cond.laysFinal "CribbageRoom" "CribbageRoom" "otherWorth" "LCribbageRoom$Worth;" ∈ UW := uw_in (in_2 _ (List.mem_of_getElem? (i := 216) rfl)) rfl
theorem ly_11_10 : Cond.laysFinal "CribbageRoom" "CribbageRoom" "four" "LCribbageRoom$Four;" ∈ UW := uw_in (in_2 _ (List.mem_of_getElem? (i := 218) rfl)) rfl
theorem ly_11_11 : Cond.laysFinal "CribbageRoom" "CribbageRoom" "fours" "LCribbageRoom$Fours;" ∈ UW := uw_in (in_2 _ (List.mem_of_getElem? (i := 220) rfl)) rfl
theorem ly_11_12 : Cond.laysFinal "CribbageRoom" "CribbageRoom" "cribSum" "LCribbageRoom$CribSum;" ∈ UW := uw_in (in_2 _ (List.mem_of_getElem? (i := 222) rfl)) rfl
theorem ly_11_13 : Cond.laysFinal "CribbageRoom" "CribbageRoom" "ending" "LCribbageRoom$Ending;" ∈ UW := uw_in (in_2 _ (List.mem_of_getElem? (i := 224) rfl)) rfl
theorem ly_11_14 : Cond.laysFinal "CribbageRoom" "CribbageRoom" "refused" "[I" ∈ UW := uw_in (in_2 _ (List.mem_of_getElem? (i := 226) rfl)) rfl
theorem ly_11_15 : Cond.laysFinal "CribbageRoom" "CribbageRoom" "pegsDrawn" "[I" ∈ UW := uw_in (in_2 _ (List.mem_of_getElem? (i := 228) rfl)) rfl
theorem ly_11_16 : Cond.lays "CribbageRoom" "CribbageRoom" "latestStatus" "I" ∈ UW := uw_in (in_2 _ (List.mem_of_getElem? (i := 230) rfl)) rfl
theorem ly_11_17 : Cond.lays "CribbageRoom" "CribbageRoom" "latestJokers" "I" ∈ UW := uw_in (in_2 _ (List.mem_of_getElem? (i := 232) rfl)) rfl
theorem ly_11_18 : Cond.lays "CribbageRoom" "CribbageRoom" "latestStop" "I" ∈ UW := uw_in (in_2 _ (List.mem_of_getElem? (i := 234) rfl)) rfl
theorem inX11 : ∀ w ∈ u_ws "CribbageRoom" TX11 19, w ∈ UW := by
  intro w hw
  obtain ⟨k, hk, rfl⟩ := List.mem_map.mp hw
  replace hk := List.mem_range.mp hk
  match k, hk with
  | 0, _ => exact ly_11_0
  | 1, _ => exact ly_11_1
  | 2, _ => exact ly_11_2
  | 3, _ => exact ly_11_3
  | 4, _ => exact ly_11_4
  | 5, _ => exact ly_11_5
  | 6, _ => exact ly_11_6
  | 7, _ => exact ly_11_7
  | 8, _ => exact ly_11_8
  | 9, _ => exact ly_11_9
  | 10, _ => exact ly_11_10
  | 11, _ => exact ly_11_11
  | 12, _ => exact ly_11_12
  | 13, _ => exact ly_11_13
  | 14, _ => exact ly_11_14
  | 15, _ => exact ly_11_15
  | 16, _ => exact ly_11_16
  | 17, _ => exact ly_11_17
  | 18, _ => exact ly_11_18
  | n + 19, h => exact absurd h (by omega)
theorem ly_12_0 : Cond.lays "CribbageRoomModel" "CribbageRoomModel" "thrown" "I" ∈ UW := uw_in (in_6 _ (List.mem_of_getElem? (i := 138) rfl)) rfl
theorem ly_12_1 : Cond.lays "CribbageRoomModel" "CribbageRoomModel" "status" "I" ∈ UW := uw_in (in_6 _ (List.mem_of_getElem? (i := 140) rfl)) rfl
theorem ly_12_2 : Cond.laysFinal "CribbageRoomModel" "CribbageRoomModel" "refusals" "[I" ∈ UW := uw_in (in_6 _ (List.mem_of_getElem? (i := 142) rfl)) rfl
theorem ly_12_3 : Cond.laysFinal "CribbageRoomModel" "CribbageRoomModel" "row" "[I" ∈ UW := uw_in (in_6 _ (List.mem_of_getElem? (i := 144) rfl)) rfl
theorem ly_12_4 : Cond.laysFinal "CribbageRoomModel" "CribbageRoomModel" "images" "[I" ∈ UW := uw_in (in_6 _ (List.mem_of_getElem? (i := 146) rfl)) rfl
theorem ly_12_5 : Cond.laysFinal "CribbageRoomModel" "CribbageRoomModel" "isKept" "[Z" ∈ UW := uw_in (in_6 _ (List.mem_of_getElem? (i := 148) rfl)) rfl
theorem ly_12_6 : Cond.laysFinal "CribbageRoomModel" "CribbageRoomModel" "undos" "[I" ∈ UW := uw_in (in_6 _ (List.mem_of_getElem? (i := 150) rfl)) rfl
theorem ly_12_7 : Cond.laysFinal "CribbageRoomModel" "CribbageRoomModel" "sorts" "[I" ∈ UW := uw_in (in_6 _ (List.mem_of_getElem? (i := 152) rfl)) rfl
theorem ly_12_8 : Cond.lays "CribbageRoomModel" "CribbageRoomModel" "nUndo" "I" ∈ UW := uw_in (in_6 _ (List.mem_of_getElem? (i := 154) rfl)) rfl
theorem ly_12_9 : Cond.laysFinal "CribbageRoomModel" "CribbageRoomModel" "undosBefore" "[I" ∈ UW := uw_in (in_6 _ (List.mem_of_getElem? (i := 156) rfl)) rfl
theorem ly_12_10 : Cond.laysFinal "CribbageRoomModel" "CribbageRoomModel" "sortsBefore" "[I" ∈ UW := uw_in (in_6 _ (List.mem_of_getElem? (i := 158) rfl)) rfl
theorem ly_12_11 : Cond.lays "CribbageRoomModel" "CribbageRoomModel" "jokers" "I" ∈ UW := uw_in (in_6 _ (List.mem_of_getElem? (i := 160) rfl)) rfl
theorem ly_12_12 : Cond.laysFinal "CribbageRoomModel" "CribbageRoomModel" "tape" "[I" ∈ UW := uw_in (in_6 _ (List.mem_of_getElem? (i := 162) rfl)) rfl
theorem ly_12_13 : Cond.lays "CribbageRoomModel" "CribbageRoomModel" "taped" "I" ∈ UW := uw_in (in_6 _ (List.mem_of_getElem? (i := 164) rfl)) rfl
theorem ly_12_14 : Cond.lays "CribbageRoomModel" "CribbageRoomModel" "from" "I" ∈ UW := uw_in (in_6 _ (List.mem_of_getElem? (i := 166) rfl)) rfl
theorem ly_12_15 : Cond.lays "CribbageRoomModel" "CribbageRoomModel" "to" "I" ∈ UW := uw_in (in_6 _ (List.mem_of_getElem? (i := 168) rfl)) rfl
theorem ly_12_16 : Cond.lays "CribbageRoomModel" "CribbageRoomModel" "sort" "I" ∈ UW := uw_in (in_6 _ (List.mem_of_getElem? (i := 170) rfl)) rfl
theorem ly_12_17 : Cond.lays "CribbageRoomModel" "CribbageRoomModel" "worth" "J" ∈ UW := uw_in (in_6 _ (List.mem_of_getElem? (i := 172) rfl)) rfl
theorem ly_12_18 : Cond.lays "CribbageRoomModel" "CribbageRoomModel" "fault" "I" ∈ UW := uw_in (in_6 _ (List.mem_of_getElem? (i := 174) rfl)) rfl
theorem ly_12_19 : Cond.lays "CribbageRoomModel" "CribbageRoomModel" "bad" "Z" ∈ UW := uw_in (in_6 _ (List.mem_of_getElem? (i := 176) rfl)) rfl
theorem ly_12_20 : Cond.lays "CribbageRoomModel" "CribbageRoomModel" "ordered" "Z" ∈ UW := uw_in (in_6 _ (List.mem_of_getElem? (i := 178) rfl)) rfl
theorem ly_12_21 : Cond.lays "CribbageRoomModel" "CribbageRoomModel" "nClauses" "I" ∈ UW := uw_in (in_6 _ (List.mem_of_getElem? (i := 180) rfl)) rfl
theorem ly_12_22 : Cond.laysFinal "CribbageRoomModel" "CribbageRoomModel" "nClause" "[I" ∈ UW := uw_in (in_6 _ (List.mem_of_getElem? (i := 182) rfl)) rfl
theorem ly_12_23 : Cond.lays "CribbageRoomModel" "CribbageRoomModel" "nCode" "I" ∈ UW := uw_in (in_6 _ (List.mem_of_getElem? (i := 184) rfl)) rfl
theorem ly_12_24 : Cond.laysFinal "CribbageRoomModel" "CribbageRoomModel" "nOp" "[I" ∈ UW := uw_in (in_6 _ (List.mem_of_getElem? (i := 186) rfl)) rfl
theorem ly_12_25 : Cond.laysFinal "CribbageRoomModel" "CribbageRoomModel" "nArg" "[I" ∈ UW := uw_in (in_6 _ (List.mem_of_getElem? (i := 188) rfl)) rfl
theorem ly_12_26 : Cond.lays "CribbageRoomModel" "CribbageRoomModel" "nLeaves" "I" ∈ UW := uw_in (in_6 _ (List.mem_of_getElem? (i := 190) rfl)) rfl
theorem ly_12_27 : Cond.laysFinal "CribbageRoomModel" "CribbageRoomModel" "pile" "[I" ∈ UW := uw_in (in_6 _ (List.mem_of_getElem? (i := 192) rfl)) rfl
theorem ly_12_28 : Cond.laysFinal "CribbageRoomModel" "CribbageRoomModel" "pileAt" "[I" ∈ UW := uw_in (in_6 _ (List.mem_of_getElem? (i := 194) rfl)) rfl
theorem ly_12_29 : Cond.lays "CribbageRoomModel" "CribbageRoomModel" "piled" "I" ∈ UW := uw_in (in_6 _ (List.mem_of_getElem? (i := 196) rfl)) rfl
theorem ly_12_30 : Cond.lays "CribbageRoomModel" "CribbageRoomModel" "opened" "I" ∈ UW := uw_in (in_6 _ (List.mem_of_getElem? (i := 198) rfl)) rfl
theorem ly_12_31 : Cond.laysFinal "CribbageRoomModel" "CribbageRoomModel" "words" "[J" ∈ UW := uw_in (in_6 _ (List.mem_of_getElem? (i := 200) rfl)) rfl
theorem ly_12_32 : Cond.laysFinal "CribbageRoomModel" "CribbageRoomModel" "orderWords" "[J" ∈ UW := uw_in (in_6 _ (List.mem_of_getElem? (i := 202) rfl)) rfl
theorem ly_12_33 : Cond.laysFinal "CribbageRoomModel" "CribbageRoomModel" "heads" "[J" ∈ UW := uw_in (in_6 _ (List.mem_of_getElem? (i := 204) rfl)) rfl
theorem ly_12_34 : Cond.lays "CribbageRoomModel" "CribbageRoomModel" "law" "I" ∈ UW := uw_in (in_6 _ (List.mem_of_getElem? (i := 206) rfl)) rfl
theorem ly_12_35 : Cond.laysFinal "CribbageRoomModel" "CribbageRoomModel" "set" "[J" ∈ UW := uw_in (in_6 _ (List.mem_of_getElem? (i := 208) rfl)) rfl
theorem ly_12_36 : Cond.laysFinal "CribbageRoomModel" "CribbageRoomModel" "now" "[J" ∈ UW := uw_in (in_6 _ (List.mem_of_getElem? (i := 210) rfl)) rfl
theorem ly_12_37 : Cond.laysFinal "CribbageRoomModel" "CribbageRoomModel" "rest" "[J" ∈ UW := uw_in (in_6 _ (List.mem_of_getElem? (i := 212) rfl)) rfl
theorem ly_12_38 : Cond.lays "CribbageRoomModel" "CribbageRoomModel" "broken" "Z" ∈ UW := uw_in (in_6 _ (List.mem_of_getElem? (i := 214) rfl)) rfl
theorem ly_12_39 : Cond.lays "CribbageRoomModel" "CribbageRoomModel" "value" "J" ∈ UW := uw_in (in_6 _ (List.mem_of_getElem? (i := 216) rfl)) rfl
theorem ly_12_40 : Cond.lays "CribbageRoomModel" "CribbageRoomModel" "sum" "J" ∈ UW := uw_in (in_6 _ (List.mem_of_getElem? (i := 218) rfl)) rfl
theorem ly_12_41 : Cond.laysFinal "CribbageRoomModel" "CribbageRoomModel" "values" "[I" ∈ UW := uw_in (in_6 _ (List.mem_of_getElem? (i := 220) rfl)) rfl
theorem ly_12_42 : Cond.laysFinal "CribbageRoomModel" "CribbageRoomModel" "fifteens" "[I" ∈ UW := uw_in (in_6 _ (List.mem_of_getElem? (i := 222) rfl)) rfl
theorem ly_12_43 : Cond.laysFinal "CribbageRoomModel" "CribbageRoomModel" "pairs" "[I" ∈ UW := uw_in (in_6 _ (List.mem_of_getElem? (i := 224) rfl)) rfl
theorem ly_12_44 : Cond.laysFinal "CribbageRoomModel" "CribbageRoomModel" "runs" "[I" ∈ UW := uw_in (in_6 _ (List.mem_of_getElem? (i := 226) rfl)) rfl
theorem ly_12_45 : Cond.laysFinal "CribbageRoomModel" "CribbageRoomModel" "flushes" "[I" ∈ UW := uw_in (in_6 _ (List.mem_of_getElem? (i := 228) rfl)) rfl
theorem ly_12_46 : Cond.laysFinal "CribbageRoomModel" "CribbageRoomModel" "nobs" "[I" ∈ UW := uw_in (in_6 _ (List.mem_of_getElem? (i := 230) rfl)) rfl
theorem ly_12_47 : Cond.laysFinal "CribbageRoomModel" "CribbageRoomModel" "five" "[I" ∈ UW := uw_in (in_6 _ (List.mem_of_getElem? (i := 232) rfl)) rfl
theorem ly_12_48 : Cond.laysFinal "CribbageRoomModel" "CribbageRoomModel" "amounts" "[I" ∈ UW := uw_in (in_6 _ (List.mem_of_getElem? (i := 234) rfl)) rfl
theorem ly_12_49 : Cond.laysFinal "CribbageRoomModel" "CribbageRoomModel" "byRank" "[I" ∈ UW := uw_in (in_6 _ (List.mem_of_getElem? (i := 236) rfl)) rfl
theorem ly_12_50 : Cond.lays "CribbageRoomModel" "CribbageRoomModel" "state" "J" ∈ UW := uw_in (in_6 _ (List.mem_of_getElem? (i := 238) rfl)) rfl
theorem ly_12_51 : Cond.laysFinal "CribbageRoomModel" "CribbageRoomModel" "pack" "[I" ∈ UW := uw_in (in_7 _ (List.mem_of_getElem? (i := 0) rfl)) rfl
theorem ly_12_52 : Cond.laysFinal "CribbageRoomModel" "CribbageRoomModel" "six" "[I" ∈ UW := uw_in (in_7 _ (List.mem_of_getElem? (i := 2) rfl)) rfl
theorem ly_12_53 : Cond.laysFinal "CribbageRoomModel" "CribbageRoomModel" "deeps" "[I" ∈ UW := uw_in (in_7 _ (List.mem_of_getElem? (i := 4) rfl)) rfl
theorem ly_12_54 : Cond.laysFinal "CribbageRoomModel" "CribbageRoomModel" "cardAt" "[I" ∈ UW := uw_in (in_7 _ (List.mem_of_getElem? (i := 6) rfl)) rfl
theorem ly_12_55 : Cond.laysFinal "CribbageRoomModel" "CribbageRoomModel" "gainAt" "[I" ∈ UW := uw_in (in_7 _ (List.mem_of_getElem? (i := 8) rfl)) rfl
theorem ly_12_56 : Cond.laysFinal "CribbageRoomModel" "CribbageRoomModel" "bestAt" "[I" ∈ UW := uw_in (in_7 _ (List.mem_of_getElem? (i := 10) rfl)) rfl
theorem ly_12_57 : Cond.laysFinal "CribbageRoomModel" "CribbageRoomModel" "bestCard" "[I" ∈ UW := uw_in (in_7 _ (List.mem_of_getElem? (i := 12) rfl)) rfl
theorem ly_12_58 : Cond.laysFinal "CribbageRoomModel" "CribbageRoomModel" "countsOf" "[I" ∈ UW := uw_in (in_7 _ (List.mem_of_getElem? (i := 14) rfl)) rfl
theorem ly_12_59 : Cond.laysFinal "CribbageRoomModel" "CribbageRoomModel" "parts" "[J" ∈ UW := uw_in (in_7 _ (List.mem_of_getElem? (i := 16) rfl)) rfl
theorem ly_12_60 : Cond.laysFinal "CribbageRoomModel" "CribbageRoomModel" "acts" "[J" ∈ UW := uw_in (in_7 _ (List.mem_of_getElem? (i := 18) rfl)) rfl
theorem ly_12_61 : Cond.laysFinal "CribbageRoomModel" "CribbageRoomModel" "nOrder" "[I" ∈ UW := uw_in (in_7 _ (List.mem_of_getElem? (i := 20) rfl)) rfl
theorem ly_12_62 : Cond.lays "CribbageRoomModel" "CribbageRoomModel" "done" "I" ∈ UW := uw_in (in_7 _ (List.mem_of_getElem? (i := 22) rfl)) rfl
theorem ly_12_63 : Cond.lays "CribbageRoomModel" "CribbageRoomModel" "latest" "I" ∈ UW := uw_in (in_7 _ (List.mem_of_getElem? (i := 24) rfl)) rfl
theorem ly_12_64 : Cond.lays "CribbageRoomModel" "CribbageRoomModel" "stopped" "I" ∈ UW := uw_in (in_7 _ (List.mem_of_getElem? (i := 26) rfl)) rfl
theorem ly_12_65 : Cond.lays "CribbageRoomModel" "CribbageRoomModel" "off" "Z" ∈ UW := uw_in (in_7 _ (List.mem_of_getElem? (i := 28) rfl)) rfl
theorem ly_12_66 : Cond.laysFinal "CribbageRoomModel" "CribbageRoomModel" "drawn" "[I" ∈ UW := uw_in (in_7 _ (List.mem_of_getElem? (i := 30) rfl)) rfl
theorem ly_12_67 : Cond.lays "CribbageRoomModel" "CribbageRoomModel" "wasDrawn" "Z" ∈ UW := uw_in (in_7 _ (List.mem_of_getElem? (i := 32) rfl)) rfl
theorem inX12 : ∀ w ∈ u_ws "CribbageRoomModel" TX12 68, w ∈ UW := by
  intro w hw
  obtain ⟨k, hk, rfl⟩ := List.mem_map.mp hw
  replace hk := List.mem_range.mp hk
  match k, hk with
  | 0, _ => exact ly_12_0
  | 1, _ => exact ly_12_1
  | 2, _ => exact ly_12_2
  | 3, _ => exact ly_12_3
  | 4, _ => exact ly_12_4
  | 5, _ => exact ly_12_5
  | 6, _ => exact ly_12_6
  | 7, _ => exact ly_12_7
  | 8, _ => exact ly_12_8
  | 9, _ => exact ly_12_9
  | 10, _ => exact ly_12_10
  | 11, _ => exact ly_12_11
  | 12, _ => exact ly_12_12
  | 13, _ => exact ly_12_13
  | 14, _ => exact ly_12_14
  | 15, _ => exact ly_12_15
  | 16, _ => exact ly_12_16
  | 17, _ => exact ly_12_17
  | 18, _ => exact ly_12_18
  | 19, _ => exact ly_12_19
  | 20, _ => exact ly_12_20
  | 21, _ => exact ly_12_21
  | 22, _ => exact ly_12_22
  | 23, _ => exact ly_12_23
  | 24, _ => exact ly_12_24
  | 25, _ => exact ly_12_25
  | 26, _ => exact ly_12_26
  | 27, _ => exact ly_12_27
  | 28, _ => exact ly_12_28
  | 29, _ => exact ly_12_29
  | 30, _ => exact ly_12_30
  | 31, _ => exact ly_12_31
  | 32, _ => exact ly_12_32
  | 33, _ => exact ly_12_33
  | 34, _ => exact ly_12_34
  | 35, _ => exact ly_12_35
  | 36, _ => exact ly_12_36
  | 37, _ => exact ly_12_37
  | 38, _ => exact ly_12_38
  | 39, _ => exact ly_12_39
  | 40, _ => exact ly_12_40
  | 41, _ => exact ly_12_41
  | 42, _ => exact ly_12_42
  | 43, _ => exact ly_12_43
  | 44, _ => exact ly_12_44
  | 45, _ => exact ly_12_45
  | 46, _ => exact ly_12_46
  | 47, _ => exact ly_12_47
  | 48, _ => exact ly_12_48
  | 49, _ => exact ly_12_49
  | 50, _ => exact ly_12_50
  | 51, _ => exact ly_12_51
  | 52, _ => exact ly_12_52
  | 53, _ => exact ly_12_53
  | 54, _ => exact ly_12_54
  | 55, _ => exact ly_12_55
  | 56, _ => exact ly_12_56
  | 57, _ => exact ly_12_57
  | 58, _ => exact ly_12_58
  | 59, _ => exact ly_12_59
  | 60, _ => exact ly_12_60
  | 61, _ => exact ly_12_61
  | 62, _ => exact ly_12_62
  | 63, _ => exact ly_12_63
  | 64, _ => exact ly_12_64
  | 65, _ => exact ly_12_65
  | 66, _ => exact ly_12_66
  | 67, _ => exact ly_12_67
  | n + 68, h => exact absurd h (by omega)
