/-! names: the classes, their fields, their pools (written by program out of the claim) -/
def RX0 : String := "MistakesLent$Deed"
def TX0 : u_T := fun k => match k with
  | 0 => ("MistakesLent$Deed", "effects", "I", false)
  | 1 => ("MistakesLent$Deed", "thing", "[I", true)
  | 2 => ("MistakesLent$Deed", "change", "[I", true)
  | 3 => ("MistakesLent$Deed", "needy", "Z", false)
  | _ => ("MistakesLent$Deed", "need", "LMistakesLent$Need;", true)
def tyX0 : Nat → FieldType := fun k => match k with
  | 0 => .int
  | 1 => .array .int
  | 2 => .array .int
  | 3 => .boolean
  | _ => .object "MistakesLent$Need"
theorem nmX0 : ∀ a, a < 5 → ∀ b, b < 5 → a ≠ b → (TX0 a).2.1 ≠ (TX0 b).2.1 := by decide +kernel
theorem tyX0_ok : ∀ k, k < 5 → parseFieldDescriptor (TX0 k).2.2.1 = some (tyX0 k) := by decide +kernel
def RX1 : String := "MistakesLent$Desk"
def TX1 : u_T := fun k => match k with
  | 0 => ("MistakesLent$Desk", "holder", "[I", true)
  | 1 => ("MistakesLent$Desk", "since", "[I", true)
  | 2 => ("MistakesLent$Desk", "cleaned", "I", false)
  | 3 => ("MistakesLent$Desk", "weeks", "I", false)
  | _ => ("MistakesLent$Desk", "done", "I", false)
def tyX1 : Nat → FieldType := fun k => match k with
  | 0 => .array .int
  | 1 => .array .int
  | 2 => .int
  | 3 => .int
  | _ => .int
theorem nmX1 : ∀ a, a < 5 → ∀ b, b < 5 → a ≠ b → (TX1 a).2.1 ≠ (TX1 b).2.1 := by decide +kernel
theorem tyX1_ok : ∀ k, k < 5 → parseFieldDescriptor (TX1 k).2.2.1 = some (tyX1 k) := by decide +kernel
def RX2 : String := "MistakesLent$History"
def TX2 : u_T := fun k => match k with
  | 0 => ("MistakesLent$History", "past", "[LMistakesLent$Desk;", true)
  | 1 => ("MistakesLent$History", "newest", "I", false)
  | 2 => ("MistakesLent$History", "kept", "I", false)
  | 3 => ("MistakesLent$History", "images", "[LMistakesLent$Desk;", true)
  | _ => ("MistakesLent$History", "pictured", "I", false)
def tyX2 : Nat → FieldType := fun k => match k with
  | 0 => .array (.object "MistakesLent$Desk")
  | 1 => .int
  | 2 => .int
  | 3 => .array (.object "MistakesLent$Desk")
  | _ => .int
theorem nmX2 : ∀ a, a < 5 → ∀ b, b < 5 → a ≠ b → (TX2 a).2.1 ≠ (TX2 b).2.1 := by decide +kernel
theorem tyX2_ok : ∀ k, k < 5 → parseFieldDescriptor (TX2 k).2.2.1 = some (tyX2 k) := by decide +kernel
def RX3 : String := "MistakesLent$Lending"
def TX3 : u_T := fun k => match k with
  | 0 => ("MistakesLent$Lending", "cleanedThen", "I", false)
  | 1 => ("MistakesLent$Lending", "worths", "[I", true)
  | 2 => ("MistakesLent$Lending", "still", "[I", true)
  | 3 => ("MistakesLent$Lending", "slipsIn", "[I", true)
  | 4 => ("MistakesLent$Lending", "peopleIn", "[I", true)
  | 5 => ("MistakesLent$Lending", "tried", "[I", true)
  | 6 => ("MistakesLent$Lending", "best", "[I", true)
  | _ => ("MistakesLent$Lending", "total", "I", false)
def tyX3 : Nat → FieldType := fun k => match k with
  | 0 => .int
  | 1 => .array .int
  | 2 => .array .int
  | 3 => .array .int
  | 4 => .array .int
  | 5 => .array .int
  | 6 => .array .int
  | _ => .int
theorem nmX3 : ∀ a, a < 8 → ∀ b, b < 8 → a ≠ b → (TX3 a).2.1 ≠ (TX3 b).2.1 := by decide +kernel
theorem tyX3_ok : ∀ k, k < 8 → parseFieldDescriptor (TX3 k).2.2.1 = some (tyX3 k) := by decide +kernel
def RX4 : String := "MistakesLent$Maker"
def TX4 : u_T := fun k => match k with
  | 0 => ("MistakesLent$Maker", "one", "LMistakesLent$Steps;", true)
  | 1 => ("MistakesLent$Maker", "two", "LMistakesLent$Steps;", true)
  | 2 => ("MistakesLent$Maker", "cleanedThen", "[I", true)
  | 3 => ("MistakesLent$Maker", "number", "[I", true)
  | 4 => ("MistakesLent$Maker", "first", "[I", true)
  | _ => ("MistakesLent$Maker", "second", "[I", true)
def tyX4 : Nat → FieldType := fun k => match k with
  | 0 => .object "MistakesLent$Steps"
  | 1 => .object "MistakesLent$Steps"
  | 2 => .array .int
  | 3 => .array .int
  | 4 => .array .int
  | _ => .array .int
theorem nmX4 : ∀ a, a < 6 → ∀ b, b < 6 → a ≠ b → (TX4 a).2.1 ≠ (TX4 b).2.1 := by decide +kernel
theorem tyX4_ok : ∀ k, k < 6 → parseFieldDescriptor (TX4 k).2.2.1 = some (tyX4 k) := by decide +kernel
def RX5 : String := "MistakesLent$Museum"
def TX5 : u_T := fun k => match k with
  | 0 => ("MistakesLent$Museum", "count", "[I", true)
  | 1 => ("MistakesLent$Museum", "weeks", "I", false)
  | 2 => ("MistakesLent$Museum", "breaks", "I", false)
  | 3 => ("MistakesLent$Museum", "fine", "I", false)
  | 4 => ("MistakesLent$Museum", "grown", "I", false)
  | 5 => ("MistakesLent$Museum", "atFirst", "[I", true)
  | 6 => ("MistakesLent$Museum", "harms", "[LMistakesLent$Need;", true)
  | 7 => ("MistakesLent$Museum", "costs", "[I", true)
  | 8 => ("MistakesLent$Museum", "deeds", "[LMistakesLent$Deed;", true)
  | 9 => ("MistakesLent$Museum", "plans", "[LMistakesLent$Steps;", true)
  | 10 => ("MistakesLent$Museum", "slips", "[LMistakesLent$Slip;", true)
  | 11 => ("MistakesLent$Museum", "kind", "[I", true)
  | 12 => ("MistakesLent$Museum", "planOf", "[I", true)
  | 13 => ("MistakesLent$Museum", "asker", "[I", true)
  | 14 => ("MistakesLent$Museum", "asked", "[I", true)
  | 15 => ("MistakesLent$Museum", "pays", "[I", true)
  | 16 => ("MistakesLent$Museum", "endedPlan", "I", false)
  | _ => ("MistakesLent$Museum", "endSeen", "I", false)
def tyX5 : Nat → FieldType := fun k => match k with
  | 0 => .array .int
  | 1 => .int
  | 2 => .int
  | 3 => .int
  | 4 => .int
  | 5 => .array .int
  | 6 => .array (.object "MistakesLent$Need")
  | 7 => .array .int
  | 8 => .array (.object "MistakesLent$Deed")
  | 9 => .array (.object "MistakesLent$Steps")
  | 10 => .array (.object "MistakesLent$Slip")
  | 11 => .array .int
  | 12 => .array .int
  | 13 => .array .int
  | 14 => .array .int
  | 15 => .array .int
  | 16 => .int
  | _ => .int
theorem nmX5 : ∀ a, a < 18 → ∀ b, b < 18 → a ≠ b → (TX5 a).2.1 ≠ (TX5 b).2.1 := by decide +kernel
theorem tyX5_ok : ∀ k, k < 18 → parseFieldDescriptor (TX5 k).2.2.1 = some (tyX5 k) := by decide +kernel
def RX6 : String := "MistakesLent$Need"
def TX6 : u_T := fun k => match k with
  | 0 => ("MistakesLent$Need", "thing", "I", false)
  | 1 => ("MistakesLent$Need", "over", "Z", false)
  | _ => ("MistakesLent$Need", "bound", "I", false)
def tyX6 : Nat → FieldType := fun k => match k with
  | 0 => .int
  | 1 => .boolean
  | _ => .int
theorem nmX6 : ∀ a, a < 3 → ∀ b, b < 3 → a ≠ b → (TX6 a).2.1 ≠ (TX6 b).2.1 := by decide +kernel
theorem tyX6_ok : ∀ k, k < 3 → parseFieldDescriptor (TX6 k).2.2.1 = some (tyX6 k) := by decide +kernel
def RX7 : String := "MistakesLent$Reader"
def TX7 : u_T := fun k => match k with
  | 0 => ("MistakesLent$Reader", "tokens", "LMistakesLent$Tokens;", true)
  | 1 => ("MistakesLent$Reader", "names", "[J", true)
  | 2 => ("MistakesLent$Reader", "sorts", "[I", true)
  | 3 => ("MistakesLent$Reader", "numbers", "[I", true)
  | 4 => ("MistakesLent$Reader", "named", "I", false)
  | 5 => ("MistakesLent$Reader", "museum", "LMistakesLent$Museum;", false)
  | 6 => ("MistakesLent$Reader", "value", "I", false)
  | 7 => ("MistakesLent$Reader", "nameAt", "I", false)
  | 8 => ("MistakesLent$Reader", "fault", "I", false)
  | _ => ("MistakesLent$Reader", "place", "I", false)
def tyX7 : Nat → FieldType := fun k => match k with
  | 0 => .object "MistakesLent$Tokens"
  | 1 => .array .long
  | 2 => .array .int
  | 3 => .array .int
  | 4 => .int
  | 5 => .object "MistakesLent$Museum"
  | 6 => .int
  | 7 => .int
  | 8 => .int
  | _ => .int
theorem nmX7 : ∀ a, a < 10 → ∀ b, b < 10 → a ≠ b → (TX7 a).2.1 ≠ (TX7 b).2.1 := by decide +kernel
theorem tyX7_ok : ∀ k, k < 10 → parseFieldDescriptor (TX7 k).2.2.1 = some (tyX7 k) := by decide +kernel
def RX8 : String := "MistakesLent$Runner"
def TX8 : u_T := fun k => match k with
  | 0 => ("MistakesLent$Runner", "museum", "LMistakesLent$Museum;", false)
  | 1 => ("MistakesLent$Runner", "desk", "LMistakesLent$Desk;", true)
  | 2 => ("MistakesLent$Runner", "course", "LMistakesLent$Steps;", true)
  | 3 => ("MistakesLent$Runner", "levels", "[I", true)
  | 4 => ("MistakesLent$Runner", "brokeAt", "I", false)
  | _ => ("MistakesLent$Runner", "cost", "I", false)
def tyX8 : Nat → FieldType := fun k => match k with
  | 0 => .object "MistakesLent$Museum"
  | 1 => .object "MistakesLent$Desk"
  | 2 => .object "MistakesLent$Steps"
  | 3 => .array .int
  | 4 => .int
  | _ => .int
theorem nmX8 : ∀ a, a < 6 → ∀ b, b < 6 → a ≠ b → (TX8 a).2.1 ≠ (TX8 b).2.1 := by decide +kernel
theorem tyX8_ok : ∀ k, k < 6 → parseFieldDescriptor (TX8 k).2.2.1 = some (tyX8 k) := by decide +kernel
def RX9 : String := "MistakesLent$Slip"
def TX9 : u_T := fun k => match k with
  | 0 => ("MistakesLent$Slip", "mistake", "I", false)
  | 1 => ("MistakesLent$Slip", "deed", "I", false)
  | 2 => ("MistakesLent$Slip", "second", "I", false)
  | _ => ("MistakesLent$Slip", "often", "I", false)
def tyX9 : Nat → FieldType := fun k => match k with
  | 0 => .int
  | 1 => .int
  | 2 => .int
  | _ => .int
theorem nmX9 : ∀ a, a < 4 → ∀ b, b < 4 → a ≠ b → (TX9 a).2.1 ≠ (TX9 b).2.1 := by decide +kernel
theorem tyX9_ok : ∀ k, k < 4 → parseFieldDescriptor (TX9 k).2.2.1 = some (tyX9 k) := by decide +kernel
def RX10 : String := "MistakesLent$Steps"
def TX10 : u_T := fun k => match k with
  | 0 => ("MistakesLent$Steps", "count", "I", false)
  | 1 => ("MistakesLent$Steps", "deed", "[I", true)
  | _ => ("MistakesLent$Steps", "turned", "[Z", true)
def tyX10 : Nat → FieldType := fun k => match k with
  | 0 => .int
  | 1 => .array .int
  | _ => .array .boolean
theorem nmX10 : ∀ a, a < 3 → ∀ b, b < 3 → a ≠ b → (TX10 a).2.1 ≠ (TX10 b).2.1 := by decide +kernel
theorem tyX10_ok : ∀ k, k < 3 → parseFieldDescriptor (TX10 k).2.2.1 = some (tyX10 k) := by decide +kernel
def RX11 : String := "MistakesLent$Tokens"
def TX11 : u_T := fun k => match k with
  | 0 => ("MistakesLent$Tokens", "text", "[B", false)
  | 1 => ("MistakesLent$Tokens", "length", "I", false)
  | 2 => ("MistakesLent$Tokens", "kind", "I", false)
  | 3 => ("MistakesLent$Tokens", "place", "I", false)
  | 4 => ("MistakesLent$Tokens", "behind", "I", false)
  | 5 => ("MistakesLent$Tokens", "number", "I", false)
  | _ => ("MistakesLent$Tokens", "letters", "J", false)
def tyX11 : Nat → FieldType := fun k => match k with
  | 0 => .array .byte
  | 1 => .int
  | 2 => .int
  | 3 => .int
  | 4 => .int
  | 5 => .int
  | _ => .long
theorem nmX11 : ∀ a, a < 7 → ∀ b, b < 7 → a ≠ b → (TX11 a).2.1 ≠ (TX11 b).2.1 := by decide +kernel
theorem tyX11_ok : ∀ k, k < 7 → parseFieldDescriptor (TX11 k).2.2.1 = some (tyX11 k) := by decide +kernel
def RX12 : String := "MistakesLent"
def TX12 : u_T := fun k => match k with
  | 0 => ("MistakesLent", "tape", "[B", true)
  | 1 => ("MistakesLent", "fed", "I", false)
  | 2 => ("MistakesLent", "runner", "LMistakesLent$Runner;", true)
  | 3 => ("MistakesLent", "desk", "LMistakesLent$Desk;", true)
  | 4 => ("MistakesLent", "museum", "LMistakesLent$Museum;", false)
  | 5 => ("MistakesLent", "open", "Z", false)
  | 6 => ("MistakesLent", "reader", "LMistakesLent$Reader;", true)
  | 7 => ("MistakesLent", "history", "LMistakesLent$History;", true)
  | 8 => ("MistakesLent", "maker", "LMistakesLent$Maker;", true)
  | 9 => ("MistakesLent", "lender", "LMistakesLent$Lending;", true)
  | 10 => ("MistakesLent", "ends", "[I", true)
  | 11 => ("MistakesLent", "alike", "[I", true)
  | 12 => ("MistakesLent", "mostLeft", "I", false)
  | 13 => ("MistakesLent", "trouble", "I", false)
  | 14 => ("MistakesLent", "fault", "I", false)
  | _ => ("MistakesLent", "place", "I", false)
def tyX12 : Nat → FieldType := fun k => match k with
  | 0 => .array .byte
  | 1 => .int
  | 2 => .object "MistakesLent$Runner"
  | 3 => .object "MistakesLent$Desk"
  | 4 => .object "MistakesLent$Museum"
  | 5 => .boolean
  | 6 => .object "MistakesLent$Reader"
  | 7 => .object "MistakesLent$History"
  | 8 => .object "MistakesLent$Maker"
  | 9 => .object "MistakesLent$Lending"
  | 10 => .array .int
  | 11 => .array .int
  | 12 => .int
  | 13 => .int
  | 14 => .int
  | _ => .int
theorem nmX12 : ∀ a, a < 16 → ∀ b, b < 16 → a ≠ b → (TX12 a).2.1 ≠ (TX12 b).2.1 := by decide +kernel
theorem tyX12_ok : ∀ k, k < 16 → parseFieldDescriptor (TX12 k).2.2.1 = some (tyX12 k) := by decide +kernel
def RX13 : String := "MistakesLentModel"
def TX13 : u_T := fun k => match k with
  | 0 => ("MistakesLentModel", "thrown", "I", false)
  | 1 => ("MistakesLentModel", "tape", "[I", true)
  | 2 => ("MistakesLentModel", "taped", "I", false)
  | 3 => ("MistakesLentModel", "size", "I", false)
  | 4 => ("MistakesLentModel", "at", "I", false)
  | 5 => ("MistakesLentModel", "end1", "I", false)
  | 6 => ("MistakesLentModel", "token", "I", false)
  | 7 => ("MistakesLentModel", "whole", "I", false)
  | 8 => ("MistakesLentModel", "nameSize", "I", false)
  | 9 => ("MistakesLentModel", "fault", "I", false)
  | 10 => ("MistakesLentModel", "place", "I", false)
  | 11 => ("MistakesLentModel", "trouble", "I", false)
  | 12 => ("MistakesLentModel", "letters", "[I", true)
  | 13 => ("MistakesLentModel", "failed", "Z", false)
  | 14 => ("MistakesLentModel", "hasMuseum", "Z", false)
  | 15 => ("MistakesLentModel", "\x72", "[I", true)
  | 16 => ("MistakesLentModel", "fresh", "[I", true)
  | 17 => ("MistakesLentModel", "st", "[I", true)
  | 18 => ("MistakesLentModel", "undone", "[I", true)
  | 19 => ("MistakesLentModel", "kept", "[I", true)
  | 20 => ("MistakesLentModel", "undos", "I", false)
  | 21 => ("MistakesLentModel", "images", "I", false)
  | 22 => ("MistakesLentModel", "steps", "[I", true)
  | 23 => ("MistakesLentModel", "level", "[I", true)
  | 24 => ("MistakesLentModel", "many", "I", false)
  | 25 => ("MistakesLentModel", "broke", "I", false)
  | 26 => ("MistakesLentModel", "seen", "[I", true)
  | 27 => ("MistakesLentModel", "lookMost", "I", false)
  | 28 => ("MistakesLentModel", "trial", "[I", true)
  | 29 => ("MistakesLentModel", "trialMany", "I", false)
  | 30 => ("MistakesLentModel", "madeBy", "[I", true)
  | 31 => ("MistakesLentModel", "ends1", "[I", true)
  | 32 => ("MistakesLentModel", "weekTried", "[I", true)
  | 33 => ("MistakesLentModel", "bestWeek", "[I", true)
  | 34 => ("MistakesLentModel", "worths", "[I", true)
  | 35 => ("MistakesLentModel", "bestLent", "I", false)
  | _ => ("MistakesLentModel", "firstRest", "I", false)
def tyX13 : Nat → FieldType := fun k => match k with
  | 0 => .int
  | 1 => .array .int
  | 2 => .int
  | 3 => .int
  | 4 => .int
  | 5 => .int
  | 6 => .int
  | 7 => .int
  | 8 => .int
  | 9 => .int
  | 10 => .int
  | 11 => .int
  | 12 => .array .int
  | 13 => .boolean
  | 14 => .boolean
  | 15 => .array .int
  | 16 => .array .int
  | 17 => .array .int
  | 18 => .array .int
  | 19 => .array .int
  | 20 => .int
  | 21 => .int
  | 22 => .array .int
  | 23 => .array .int
  | 24 => .int
  | 25 => .int
  | 26 => .array .int
  | 27 => .int
  | 28 => .array .int
  | 29 => .int
  | 30 => .array .int
  | 31 => .array .int
  | 32 => .array .int
  | 33 => .array .int
  | 34 => .array .int
  | 35 => .int
  | _ => .int
theorem nmX13 : ∀ a, a < 37 → ∀ b, b < 37 → a ≠ b → (TX13 a).2.1 ≠ (TX13 b).2.1 := by decide +kernel
theorem tyX13_ok : ∀ k, k < 37 → parseFieldDescriptor (TX13 k).2.2.1 = some (tyX13 k) := by decide +kernel
abbrev vwCl : List vw_C := [(RX0, TX0, 5), (RX1, TX1, 5), (RX2, TX2, 5), (RX3, TX3, 8), (RX4, TX4, 6), (RX5, TX5, 18), (RX6, TX6, 3), (RX7, TX7, 10), (RX8, TX8, 6), (RX9, TX9, 4), (RX10, TX10, 3), (RX11, TX11, 7), (RX12, TX12, 16), (RX13, TX13, 37)]
def dm_tb : List Cond := lw_tbl.filter goodWord
theorem dm_tb_good : ∀ w ∈ dm_tb, (w.onTables && w.keeps) = true ∨ ∃ ty, w = .arrayClass ty := fun w h => good_of_word (List.mem_filter.mp h).2
def dm_at (i : Nat) (w : Cond) : Bool := decide (lw_tbl[i]? = some w) && goodWord w
theorem dm_at_mem {i : Nat} {w : Cond} (h : dm_at i w = true) : w ∈ dm_tb := by
  unfold dm_at at h
  simp only [Bool.and_eq_true, decide_eq_true_eq] at h
  exact List.mem_filter.mpr ⟨List.mem_of_getElem? h.1, h.2⟩
def lpX0 : List Nat := [228, 230, 232, 234, 236]
theorem ixX0 : ∀ w ∈ u_ws RX0 TX0 5, w ∈ dm_tb := by
  have h : ∀ k, k < 5 → dm_at (lpX0.getD k 0) (u_lay RX0 TX0 k) = true := by decide +kernel
  intro w hw
  obtain ⟨k, hk, rfl⟩ := List.mem_map.mp hw
  exact dm_at_mem (h k (List.mem_range.mp hk))
def lpX1 : List Nat := [406, 408, 410, 412, 414]
theorem ixX1 : ∀ w ∈ u_ws RX1 TX1 5, w ∈ dm_tb := by
  have h : ∀ k, k < 5 → dm_at (lpX1.getD k 0) (u_lay RX1 TX1 k) = true := by decide +kernel
  intro w hw
  obtain ⟨k, hk, rfl⟩ := List.mem_map.mp hw
  exact dm_at_mem (h k (List.mem_range.mp hk))
def lpX2 : List Nat := [600, 602, 604, 606, 608]
theorem ixX2 : ∀ w ∈ u_ws RX2 TX2 5, w ∈ dm_tb := by
  have h : ∀ k, k < 5 → dm_at (lpX2.getD k 0) (u_lay RX2 TX2 k) = true := by decide +kernel
  intro w hw
  obtain ⟨k, hk, rfl⟩ := List.mem_map.mp hw
  exact dm_at_mem (h k (List.mem_range.mp hk))
def lpX3 : List Nat := [659, 661, 663, 665, 667, 669, 671, 673]
theorem ixX3 : ∀ w ∈ u_ws RX3 TX3 8, w ∈ dm_tb := by
  have h : ∀ k, k < 8 → dm_at (lpX3.getD k 0) (u_lay RX3 TX3 k) = true := by decide +kernel
  intro w hw
  obtain ⟨k, hk, rfl⟩ := List.mem_map.mp hw
  exact dm_at_mem (h k (List.mem_range.mp hk))
def lpX4 : List Nat := [629, 631, 633, 635, 637, 639]
theorem ixX4 : ∀ w ∈ u_ws RX4 TX4 6, w ∈ dm_tb := by
  have h : ∀ k, k < 6 → dm_at (lpX4.getD k 0) (u_lay RX4 TX4 k) = true := by decide +kernel
  intro w hw
  obtain ⟨k, hk, rfl⟩ := List.mem_map.mp hw
  exact dm_at_mem (h k (List.mem_range.mp hk))
def lpX5 : List Nat := [349, 351, 353, 355, 357, 359, 361, 363, 365, 367, 369, 371, 373, 375, 377, 379, 381, 383]
theorem ixX5 : ∀ w ∈ u_ws RX5 TX5 18, w ∈ dm_tb := by
  have h : ∀ k, k < 18 → dm_at (lpX5.getD k 0) (u_lay RX5 TX5 k) = true := by decide +kernel
  intro w hw
  obtain ⟨k, hk, rfl⟩ := List.mem_map.mp hw
  exact dm_at_mem (h k (List.mem_range.mp hk))
def lpX6 : List Nat := [201, 203, 205]
theorem ixX6 : ∀ w ∈ u_ws RX6 TX6 3, w ∈ dm_tb := by
  have h : ∀ k, k < 3 → dm_at (lpX6.getD k 0) (u_lay RX6 TX6 k) = true := by decide +kernel
  intro w hw
  obtain ⟨k, hk, rfl⟩ := List.mem_map.mp hw
  exact dm_at_mem (h k (List.mem_range.mp hk))
def lpX7 : List Nat := [562, 564, 566, 568, 570, 572, 574, 576, 578, 580]
theorem ixX7 : ∀ w ∈ u_ws RX7 TX7 10, w ∈ dm_tb := by
  have h : ∀ k, k < 10 → dm_at (lpX7.getD k 0) (u_lay RX7 TX7 k) = true := by decide +kernel
  intro w hw
  obtain ⟨k, hk, rfl⟩ := List.mem_map.mp hw
  exact dm_at_mem (h k (List.mem_range.mp hk))
def lpX8 : List Nat := [434, 436, 438, 440, 442, 444]
theorem ixX8 : ∀ w ∈ u_ws RX8 TX8 6, w ∈ dm_tb := by
  have h : ∀ k, k < 6 → dm_at (lpX8.getD k 0) (u_lay RX8 TX8 k) = true := by decide +kernel
  intro w hw
  obtain ⟨k, hk, rfl⟩ := List.mem_map.mp hw
  exact dm_at_mem (h k (List.mem_range.mp hk))
def lpX9 : List Nat := [278, 280, 282, 284]
theorem ixX9 : ∀ w ∈ u_ws RX9 TX9 4, w ∈ dm_tb := by
  have h : ∀ k, k < 4 → dm_at (lpX9.getD k 0) (u_lay RX9 TX9 k) = true := by decide +kernel
  intro w hw
  obtain ⟨k, hk, rfl⟩ := List.mem_map.mp hw
  exact dm_at_mem (h k (List.mem_range.mp hk))
def lpX10 : List Nat := [254, 256, 258]
theorem ixX10 : ∀ w ∈ u_ws RX10 TX10 3, w ∈ dm_tb := by
  have h : ∀ k, k < 3 → dm_at (lpX10.getD k 0) (u_lay RX10 TX10 k) = true := by decide +kernel
  intro w hw
  obtain ⟨k, hk, rfl⟩ := List.mem_map.mp hw
  exact dm_at_mem (h k (List.mem_range.mp hk))
def lpX11 : List Nat := [470, 472, 474, 476, 478, 480, 482]
theorem ixX11 : ∀ w ∈ u_ws RX11 TX11 7, w ∈ dm_tb := by
  have h : ∀ k, k < 7 → dm_at (lpX11.getD k 0) (u_lay RX11 TX11 k) = true := by decide +kernel
  intro w hw
  obtain ⟨k, hk, rfl⟩ := List.mem_map.mp hw
  exact dm_at_mem (h k (List.mem_range.mp hk))
def lpX12 : List Nat := [693, 695, 697, 699, 701, 703, 705, 707, 709, 711, 713, 715, 717, 719, 721, 723]
theorem ixX12 : ∀ w ∈ u_ws RX12 TX12 16, w ∈ dm_tb := by
  have h : ∀ k, k < 16 → dm_at (lpX12.getD k 0) (u_lay RX12 TX12 k) = true := by decide +kernel
  intro w hw
  obtain ⟨k, hk, rfl⟩ := List.mem_map.mp hw
  exact dm_at_mem (h k (List.mem_range.mp hk))
def lpX13 : List Nat := [1427, 1429, 1431, 1433, 1435, 1437, 1439, 1441, 1443, 1445, 1447, 1449, 1451, 1453, 1455, 1457, 1459, 1461, 1463, 1465, 1467, 1469, 1471, 1473, 1475, 1477, 1479, 1481, 1483, 1485, 1487, 1489, 1491, 1493, 1495, 1497, 1499]
theorem ixX13 : ∀ w ∈ u_ws RX13 TX13 37, w ∈ dm_tb := by
  have h : ∀ k, k < 37 → dm_at (lpX13.getD k 0) (u_lay RX13 TX13 k) = true := by decide +kernel
  intro w hw
  obtain ⟨k, hk, rfl⟩ := List.mem_map.mp hw
  exact dm_at_mem (h k (List.mem_range.mp hk))
def dm_lk {α : Type} : List (Nat × α) → Nat → Option α
  | [], _ => none
  | (n, a) :: r, k => match Nat.beq n k with
    | true => some a
    | false => dm_lk r k
def dm_fl_0 : List (Nat × Nat × Nat × Nat) := [(25, 0, 0, 217), (9, 0, 1, 219), (15, 0, 2, 221), (21, 0, 4, 225)]
def dm_fl_1 : List (Nat × Nat × Nat × Nat) := [(13, 1, 0, 393), (18, 1, 1, 395), (21, 1, 2, 397), (25, 1, 3, 402), (28, 1, 4, 404)]
def dm_fl_2 : List (Nat × Nat × Nat × Nat) := [(11, 2, 0, 593), (28, 2, 1, 594), (21, 2, 2, 595), (17, 2, 3, 597), (25, 2, 4, 598)]
def dm_fl_3 : List (Nat × Nat × Nat × Nat) := [(52, 5, 0, 289), (80, 5, 1, 293), (77, 5, 13, 335), (74, 5, 14, 339), (43, 1, 2, 399), (48, 8, 0, 422), (37, 8, 1, 426), (9, 3, 0, 649), (19, 3, 1, 650), (22, 3, 2, 651), (25, 3, 3, 652), (28, 3, 4, 653), (31, 3, 5, 654), (34, 3, 6, 655), (67, 3, 7, 657)]
def dm_fl_4 : List (Nat × Nat × Nat × Nat) := [(74, 10, 0, 246), (77, 5, 0, 290), (53, 5, 9, 318), (43, 1, 2, 400), (49, 8, 0, 423), (37, 8, 1, 427), (12, 4, 0, 620), (18, 4, 1, 621), (25, 4, 2, 622), (28, 4, 3, 623), (31, 4, 4, 625), (34, 4, 5, 627)]
def dm_fl_5 : List (Nat × Nat × Nat × Nat) := [(13, 5, 0, 287), (18, 5, 5, 305), (23, 5, 6, 308), (27, 5, 7, 311), (32, 5, 8, 314), (38, 5, 9, 317), (44, 5, 10, 322), (48, 5, 11, 326), (51, 5, 12, 330), (54, 5, 13, 334), (57, 5, 14, 338), (60, 5, 15, 342)]
def dm_fl_6 : List (Nat × Nat × Nat × Nat) := [(13, 6, 0, 195), (7, 6, 1, 197), (17, 6, 2, 199)]
def dm_fl_7 : List (Nat × Nat × Nat × Nat) := [(209, 6, 0, 196), (215, 6, 1, 198), (220, 6, 2, 200), (235, 0, 0, 218), (254, 0, 1, 220), (256, 0, 2, 222), (243, 0, 3, 224), (246, 0, 4, 227), (259, 10, 0, 248), (270, 9, 0, 269), (274, 9, 1, 272), (276, 9, 2, 275), (281, 9, 3, 277), (74, 5, 0, 288), (186, 5, 1, 294), (190, 5, 2, 297), (194, 5, 3, 300), (198, 5, 4, 303), (203, 5, 5, 307), (223, 5, 6, 310), (233, 5, 7, 313), (128, 5, 8, 316), (136, 5, 9, 319), (144, 5, 10, 324), (297, 5, 11, 329), (299, 5, 12, 333), (302, 5, 13, 337), (305, 5, 14, 341), (310, 5, 15, 344), (312, 5, 16, 345), (315, 5, 17, 347), (104, 11, 2, 462), (114, 11, 3, 464), (165, 11, 5, 467), (171, 11, 6, 469), (12, 7, 0, 549), (18, 7, 1, 550), (22, 7, 2, 551), (26, 7, 3, 552), (77, 7, 4, 553), (32, 7, 5, 554), (168, 7, 6, 556), (175, 7, 7, 557), (81, 7, 8, 558), (84, 7, 9, 560)]
def dm_fl_8 : List (Nat × Nat × Nat × Nat) := [(107, 0, 3, 223), (113, 0, 4, 226), (62, 10, 0, 245), (65, 10, 1, 250), (71, 10, 2, 253), (59, 9, 0, 267), (54, 9, 1, 270), (82, 9, 2, 273), (92, 5, 0, 292), (130, 5, 2, 296), (185, 5, 3, 299), (169, 5, 4, 302), (94, 5, 5, 306), (136, 5, 6, 309), (140, 5, 7, 312), (103, 5, 8, 315), (155, 5, 9, 320), (50, 5, 10, 323), (162, 5, 11, 327), (159, 5, 12, 331), (172, 5, 13, 336), (175, 5, 14, 340), (182, 5, 15, 343), (47, 1, 2, 398), (12, 8, 0, 420), (21, 8, 1, 424), (28, 8, 2, 428), (36, 8, 3, 429), (39, 8, 4, 431), (133, 8, 5, 433)]
def dm_fl_10 : List (Nat × Nat × Nat × Nat) := [(19, 10, 0, 244), (9, 10, 1, 249), (15, 10, 2, 252)]
def dm_fl_11 : List (Nat × Nat × Nat × Nat) := [(7, 11, 0, 459), (22, 11, 1, 460), (35, 11, 2, 461), (32, 11, 3, 463), (26, 11, 4, 465), (50, 11, 5, 466), (44, 11, 6, 468)]
def dm_fl_12 : List (Nat × Nat × Nat × Nat) := [(150, 10, 0, 247), (154, 10, 1, 251), (128, 9, 0, 268), (133, 9, 1, 271), (136, 9, 2, 274), (139, 9, 3, 276), (109, 5, 0, 291), (314, 5, 1, 295), (353, 5, 2, 298), (356, 5, 3, 301), (359, 5, 4, 304), (146, 5, 9, 321), (124, 5, 10, 325), (156, 5, 11, 328), (159, 5, 12, 332), (217, 5, 16, 346), (220, 5, 17, 348), (302, 1, 0, 394), (311, 1, 1, 396), (331, 1, 2, 401), (308, 1, 3, 403), (328, 1, 4, 405), (25, 8, 0, 421), (20, 8, 1, 425), (170, 8, 3, 430), (173, 8, 4, 432), (92, 7, 5, 555), (84, 7, 8, 559), (88, 7, 9, 561), (362, 2, 2, 596), (365, 2, 4, 599), (249, 4, 3, 624), (252, 4, 4, 626), (255, 4, 5, 628), (280, 3, 6, 656), (277, 3, 7, 658), (9, 12, 0, 677), (68, 12, 1, 678), (16, 12, 2, 679), (24, 12, 3, 680), (29, 12, 4, 681), (93, 12, 5, 682), (33, 12, 6, 683), (40, 12, 7, 684), (47, 12, 8, 685), (54, 12, 9, 686), (62, 12, 10, 687), (65, 12, 11, 688), (227, 12, 12, 689), (117, 12, 13, 690), (87, 12, 14, 691), (91, 12, 15, 692)]
def dm_fl_13 : List (Nat × Nat × Nat × Nat) := [(62, 13, 0, 1390), (7, 13, 1, 1391), (68, 13, 2, 1392), (71, 13, 3, 1393), (81, 13, 4, 1394), (74, 13, 5, 1395), (90, 13, 6, 1396), (87, 13, 7, 1397), (84, 13, 8, 1398), (104, 13, 9, 1399), (13, 13, 10, 1400), (65, 13, 11, 1401), (17, 13, 12, 1402), (100, 13, 13, 1403), (188, 13, 14, 1404), (20, 13, 15, 1405), (23, 13, 16, 1406), (26, 13, 17, 1407), (29, 13, 18, 1408), (32, 13, 19, 1409), (191, 13, 20, 1410), (194, 13, 21, 1411), (35, 13, 22, 1412), (38, 13, 23, 1413), (303, 13, 24, 1414), (312, 13, 25, 1415), (41, 13, 26, 1416), (366, 13, 27, 1417), (44, 13, 28, 1418), (375, 13, 29, 1419), (47, 13, 30, 1420), (50, 13, 31, 1421), (53, 13, 32, 1422), (56, 13, 33, 1423), (59, 13, 34, 1424), (420, 13, 35, 1425), (436, 13, 36, 1426)]
def dm_fl (c : Nat) : List (Nat × Nat × Nat × Nat) := match c with
  | 0 => dm_fl_0
  | 1 => dm_fl_1
  | 2 => dm_fl_2
  | 3 => dm_fl_3
  | 4 => dm_fl_4
  | 5 => dm_fl_5
  | 6 => dm_fl_6
  | 7 => dm_fl_7
  | 8 => dm_fl_8
  | 10 => dm_fl_10
  | 11 => dm_fl_11
  | 12 => dm_fl_12
  | 13 => dm_fl_13
  | _ => []
def dm_ml_0 : List (Nat × (Nat × Nat × Nat × Nat) × Nat × Nat × Nat × Nat × Nat × Nat) := [(3, (3000, 0, 0, 99), 2, 214, 0, 0, 0, 0), (29, (3002, 0, 0, 99), 1, 981, 0, 0, 0, 0), (35, (3001, 0, 0, 99), 1, 982, 0, 0, 0, 0), (20, (25, 1, 0, 6), 2, 216, 192, 0, 193, 139)]
def dm_ml_1 : List (Nat × (Nat × Nat × Nat × Nat) × Nat × Nat × Nat × Nat × Nat × Nat) := [(3, (3000, 0, 0, 99), 2, 391, 0, 0, 0, 0)]
def dm_ml_2 : List (Nat × (Nat × Nat × Nat × Nat) × Nat × Nat × Nat × Nat × Nat × Nat) := [(3, (3000, 0, 0, 99), 2, 589, 0, 0, 0, 0), (31, (4, 2, 0, 1), 0, 1258, 1259, 1260, 1261, 143), (35, (3002, 0, 0, 99), 1, 1262, 0, 0, 0, 0), (20, (2, 1, 0, 1), 2, 592, 389, 0, 390, 143)]
def dm_ml_3 : List (Nat × (Nat × Nat × Nat × Nat) × Nat × Nat × Nat × Nat × Nat × Nat) := [(3, (3000, 0, 0, 99), 2, 647, 0, 0, 0, 0), (57, (62, 2, 1, 8), 0, 1187, 1170, 1171, 1172, 137), (61, (3001, 0, 0, 99), 1, 1188, 0, 0, 0, 0), (70, (17, 4, 0, 3), 0, 1189, 1191, 49, 1192, 152)]
def dm_ml_4 : List (Nat × (Nat × Nat × Nat × Nat) × Nat × Nat × Nat × Nat × Nat × Nat) := [(3, (3000, 0, 0, 99), 2, 616, 0, 0, 0, 0), (59, (59, 4, 1, 8), 0, 1119, 1000, 1001, 1002, 137), (63, (60, 3, 1, 8), 0, 1120, 1107, 1108, 1109, 137), (67, (21, 4, 1, 4), 0, 1121, 1123, 43, 1124, 151), (79, (65, 2, 0, 10), 0, 1125, 952, 953, 954, 141), (83, (66, 4, 0, 10), 0, 1126, 851, 852, 853, 141), (71, (22, 4, 1, 4), 0, 1127, 1129, 44, 1130, 151), (87, (23, 3, 1, 4), 0, 1131, 1133, 45, 1134, 151), (11, (64, 1, 0, 10), 2, 618, 241, 0, 242, 141)]
def dm_ml_5 : List (Nat × (Nat × Nat × Nat × Nat) × Nat × Nat × Nat × Nat × Nat × Nat) := [(3, (3000, 0, 0, 99), 2, 179, 0, 0, 0, 0), (63, (25, 1, 0, 6), 2, 191, 192, 0, 193, 139), (64, (0, 1, 0, 0), 2, 211, 212, 0, 213, 140), (65, (64, 1, 0, 10), 2, 240, 241, 0, 242, 141), (66, (63, 1, 0, 9), 2, 263, 264, 0, 265, 142)]
def dm_ml_6 : List (Nat × (Nat × Nat × Nat × Nat) × Nat × Nat × Nat × Nat × Nat × Nat) := [(1, (3000, 0, 0, 99), 2, 194, 0, 0, 0, 0)]
def dm_ml_7 : List (Nat × (Nat × Nat × Nat × Nat) × Nat × Nat × Nat × Nat × Nat × Nat) := [(3, (3000, 0, 0, 99), 2, 452, 0, 0, 0, 0), (31, (24, 1, 0, 5), 2, 486, 177, 0, 178, 138), (37, (28, 1, 3, 99), 1, 488, 489, 0, 490, 144), (59, (3003, 0, 0, 99), 0, 491, 0, 0, 0, 0), (67, (3004, 0, 0, 99), 0, 502, 0, 0, 0, 0), (87, (70, 3, 0, 11), 0, 747, 748, 749, 750, 145), (91, (37, 1, 1, 7), 0, 770, 772, 4, 773, 144), (94, (32, 2, 1, 7), 0, 774, 776, 5, 777, 144), (111, (30, 2, 1, 7), 0, 778, 780, 6, 781, 144), (115, (31, 3, 1, 7), 0, 782, 784, 7, 785, 144), (98, (71, 1, 0, 11), 0, 786, 758, 759, 760, 145), (101, (34, 2, 1, 7), 0, 787, 789, 8, 790, 144), (119, (40, 1, 1, 7), 0, 791, 793, 9, 794, 144), (180, (35, 2, 1, 7), 0, 796, 798, 10, 799, 144), (161, (74, 2, 1, 11), 0, 800, 801, 802, 803, 145), (183, (36, 3, 1, 7), 0, 806, 808, 11, 809, 144), (122, (41, 2, 1, 7), 0, 813, 815, 12, 816, 144), (200, (38, 2, 1, 7), 0, 817, 819, 13, 820, 144), (125, (43, 2, 1, 7), 0, 821, 823, 14, 824, 144), (227, (42, 2, 1, 7), 0, 825, 827, 15, 828, 144), (206, (39, 2, 1, 7), 0, 829, 831, 16, 832, 144), (132, (44, 2, 1, 7), 0, 836, 838, 17, 839, 144), (240, (45, 2, 1, 7), 0, 840, 842, 18, 843, 144), (140, (46, 2, 1, 7), 0, 846, 848, 19, 849, 144), (263, (66, 4, 0, 10), 0, 850, 851, 852, 853, 141), (148, (47, 2, 1, 7), 0, 854, 856, 20, 857, 144), (267, (48, 1, 1, 7), 0, 858, 860, 21, 861, 144), (152, (49, 2, 1, 7), 0, 868, 870, 22, 871, 144), (155, (50, 2, 1, 7), 0, 874, 876, 23, 877, 144), (158, (51, 1, 1, 7), 0, 879, 881, 24, 882, 144), (107, (33, 1, 1, 7), 0, 883, 885, 25, 886, 144), (11, (69, 1, 0, 11), 2, 455, 456, 0, 457, 145)]
def dm_ml_8 : List (Nat × (Nat × Nat × Nat × Nat) × Nat × Nat × Nat × Nat × Nat × Nat) := [(3, (3000, 0, 0, 99), 2, 173, 0, 0, 0, 0), (11, (24, 1, 0, 5), 2, 176, 177, 0, 178, 138), (85, (65, 2, 0, 10), 0, 951, 952, 953, 954, 141), (89, (55, 2, 0, 8), 0, 955, 957, 30, 958, 137), (43, (54, 3, 1, 8), 0, 959, 961, 31, 962, 137), (67, (67, 2, 0, 10), 0, 963, 964, 965, 966, 141), (75, (66, 4, 0, 10), 0, 967, 851, 852, 853, 141), (79, (68, 2, 0, 10), 0, 968, 969, 970, 971, 141), (97, (3002, 0, 0, 99), 1, 972, 0, 0, 0, 0), (117, (26, 2, 1, 6), 0, 973, 974, 975, 976, 139), (123, (1, 3, 0, 0), 0, 977, 978, 979, 980, 140), (127, (57, 1, 0, 8), 0, 983, 985, 32, 986, 137), (143, (56, 5, 0, 8), 0, 1003, 948, 949, 950, 137), (147, (53, 3, 1, 8), 0, 1110, 1009, 1010, 1011, 137), (178, (61, 3, 1, 8), 0, 1173, 1174, 1175, 1176, 137), (151, (5, 2, 1, 1), 0, 1177, 924, 925, 926, 143), (165, (59, 4, 1, 8), 0, 1178, 1000, 1001, 1002, 137), (20, (2, 1, 0, 1), 2, 388, 389, 0, 390, 143), (27, (64, 1, 0, 10), 2, 418, 241, 0, 242, 141)]
def dm_ml_9 : List (Nat × (Nat × Nat × Nat × Nat) × Nat × Nat × Nat × Nat × Nat × Nat) := [(1, (3000, 0, 0, 99), 2, 266, 0, 0, 0, 0)]
def dm_ml_10 : List (Nat × (Nat × Nat × Nat × Nat) × Nat × Nat × Nat × Nat × Nat × Nat) := [(3, (3000, 0, 0, 99), 2, 243, 0, 0, 0, 0)]
def dm_ml_11 : List (Nat × (Nat × Nat × Nat × Nat) × Nat × Nat × Nat × Nat × Nat × Nat) := [(1, (3000, 0, 0, 99), 2, 458, 0, 0, 0, 0), (13, (3002, 0, 0, 99), 1, 751, 0, 0, 0, 0), (19, (3001, 0, 0, 99), 1, 754, 0, 0, 0, 0), (29, (71, 1, 0, 11), 0, 757, 758, 759, 760, 145), (38, (72, 1, 0, 11), 0, 761, 763, 2, 764, 145), (41, (73, 1, 0, 11), 0, 766, 768, 3, 769, 145), (53, (3003, 0, 0, 99), 0, 804, 0, 0, 0, 0), (58, (3004, 0, 0, 99), 0, 805, 0, 0, 0, 0)]
def dm_ml_12 : List (Nat × (Nat × Nat × Nat × Nat) × Nat × Nat × Nat × Nat × Nat × Nat) := [(3, (3000, 0, 0, 99), 2, 165, 0, 0, 0, 0), (32, (27, 1, 0, 7), 2, 449, 450, 0, 451, 144), (39, (8, 1, 0, 2), 2, 586, 587, 0, 588, 150), (72, (77, 2, 0, 12), 0, 730, 732, 0, 733, 136), (76, (81, 2, 1, 12), 0, 738, 740, 1, 741, 136), (80, (29, 3, 0, 7), 0, 742, 743, 744, 745, 144), (97, (3, 1, 0, 1), 0, 887, 888, 889, 890, 143), (102, (9, 1, 0, 2), 0, 891, 892, 893, 894, 150), (105, (19, 1, 0, 4), 0, 895, 896, 897, 898, 151), (108, (15, 1, 0, 3), 0, 899, 900, 901, 902, 152), (114, (83, 2, 1, 12), 0, 903, 905, 26, 906, 136), (120, (85, 3, 1, 12), 0, 919, 921, 27, 922, 136), (142, (5, 2, 1, 1), 0, 923, 924, 925, 926, 143), (162, (94, 4, 1, 12), 0, 939, 941, 28, 942, 136), (180, (86, 2, 1, 12), 0, 943, 945, 29, 946, 136), (166, (56, 5, 0, 8), 0, 947, 948, 949, 950, 137), (176, (59, 4, 1, 8), 0, 999, 1000, 1001, 1002, 137), (183, (53, 3, 1, 8), 0, 1008, 1009, 1010, 1011, 137), (187, (98, 3, 1, 12), 0, 1016, 1018, 33, 1019, 136), (191, (102, 3, 1, 12), 0, 1032, 1034, 34, 1035, 136), (194, (58, 4, 1, 8), 0, 1036, 1037, 1038, 1039, 137), (197, (103, 4, 1, 12), 0, 1040, 1042, 35, 1043, 136), (201, (3001, 0, 0, 99), 1, 1052, 0, 0, 0, 0), (207, (108, 1, 1, 12), 0, 1057, 1059, 36, 1060, 136), (214, (82, 2, 1, 12), 0, 1061, 1063, 37, 1064, 136), (211, (109, 2, 1, 12), 0, 1065, 1067, 38, 1068, 136), (223, (112, 2, 1, 12), 0, 1081, 1083, 39, 1084, 136), (230, (113, 3, 0, 12), 0, 1085, 1087, 40, 1088, 136), (237, (114, 4, 0, 12), 0, 1089, 1091, 41, 1092, 136), (234, (115, 2, 1, 12), 0, 1093, 1095, 42, 1096, 136), (242, (60, 3, 1, 8), 0, 1106, 1107, 1108, 1109, 137), (245, (20, 3, 0, 4), 0, 1115, 1116, 1117, 1118, 151), (257, (121, 1, 0, 12), 0, 1143, 1145, 46, 1146, 136), (260, (279, 1, 1, 99), 1, 1147, 1148, 0, 1149, 155), (265, (122, 2, 1, 12), 0, 1153, 1155, 47, 1156, 136), (268, (123, 4, 1, 12), 0, 1157, 1159, 48, 1160, 136), (271, (62, 2, 1, 8), 0, 1169, 1170, 1171, 1172, 137), (274, (16, 2, 0, 3), 0, 1183, 1184, 1185, 1186, 152), (283, (129, 3, 1, 12), 0, 1201, 1203, 50, 1204, 136), (286, (130, 2, 2, 12), 0, 1205, 1207, 51, 1208, 136), (289, (133, 2, 1, 12), 0, 1209, 1211, 52, 1212, 136), (292, (132, 2, 1, 12), 0, 1213, 1215, 53, 1216, 136), (295, (131, 3, 1, 12), 0, 1217, 1219, 54, 1220, 136), (299, (135, 1, 1, 99), 1, 1230, 1231, 0, 1232, 136), (305, (6, 2, 1, 1), 0, 1241, 1242, 1243, 1244, 143), (315, (7, 2, 1, 1), 0, 1249, 1250, 1251, 1252, 143), (318, (61, 3, 1, 8), 0, 1253, 1174, 1175, 1176, 137), (321, (10, 2, 0, 2), 0, 1254, 1255, 1256, 1257, 150), (325, (84, 1, 1, 12), 0, 1263, 1265, 55, 1266, 136), (334, (11, 2, 1, 2), 0, 1283, 1284, 1285, 1286, 150), (338, (12, 2, 1, 2), 0, 1291, 1292, 1293, 1294, 150), (342, (13, 3, 1, 2), 0, 1299, 1300, 1301, 1302, 150), (15, (52, 1, 0, 8), 2, 170, 171, 0, 172, 137), (46, (18, 1, 0, 4), 2, 613, 614, 0, 615, 151), (53, (14, 1, 0, 3), 2, 644, 645, 0, 646, 152)]
def dm_ml_13 : List (Nat × (Nat × Nat × Nat × Nat) × Nat × Nat × Nat × Nat × Nat × Nat) := [(1, (3000, 0, 0, 99), 2, 1389, 0, 0, 0, 0), (175, (150, 1, 0, 13), 0, 1514, 1516, 57, 1517, 153), (157, (153, 3, 1, 99), 1, 1518, 1519, 0, 1520, 153), (178, (151, 2, 1, 13), 0, 1521, 1523, 58, 1524, 153), (121, (160, 1, 0, 13), 0, 1525, 1527, 59, 1528, 153), (77, (157, 2, 1, 13), 0, 1529, 1531, 60, 1532, 153), (93, (158, 1, 1, 99), 1, 1533, 1534, 0, 1535, 153), (97, (159, 1, 1, 99), 1, 1536, 1537, 0, 1538, 153), (181, (177, 1, 0, 13), 0, 1539, 1541, 61, 1542, 153), (117, (162, 2, 1, 13), 0, 1544, 1546, 62, 1547, 153), (107, (3003, 0, 0, 99), 0, 1548, 0, 0, 0, 0), (113, (3004, 0, 0, 99), 0, 1549, 0, 0, 0, 0), (197, (178, 1, 0, 13), 0, 1550, 1552, 63, 1553, 153), (127, (161, 3, 0, 13), 0, 1554, 1556, 64, 1557, 153), (230, (173, 4, 1, 13), 0, 1559, 1561, 65, 1562, 153), (168, (164, 2, 0, 13), 0, 1563, 1565, 66, 1566, 153), (124, (163, 2, 1, 13), 0, 1567, 1569, 67, 1570, 153), (172, (172, 3, 1, 13), 0, 1571, 1573, 68, 1574, 153), (200, (176, 3, 1, 13), 0, 1579, 1581, 69, 1582, 153), (204, (179, 1, 0, 13), 0, 1583, 1585, 70, 1586, 153), (240, (167, 2, 0, 13), 0, 1587, 1589, 71, 1590, 153), (151, (165, 1, 0, 13), 0, 1591, 1593, 72, 1594, 153), (154, (166, 1, 1, 13), 0, 1603, 1605, 73, 1606, 153), (207, (181, 1, 0, 13), 0, 1607, 1609, 74, 1610, 153), (248, (170, 1, 1, 13), 0, 1611, 1613, 75, 1614, 153), (165, (169, 3, 1, 13), 0, 1615, 1617, 76, 1618, 153), (161, (168, 3, 1, 13), 0, 1619, 1621, 77, 1622, 153), (251, (180, 1, 1, 13), 0, 1623, 1625, 78, 1626, 153), (210, (182, 1, 0, 13), 0, 1630, 1632, 79, 1633, 153), (260, (174, 1, 1, 13), 0, 1636, 1638, 80, 1639, 153), (213, (183, 1, 0, 13), 0, 1640, 1642, 81, 1643, 153), (216, (184, 1, 0, 13), 0, 1644, 1646, 82, 1647, 153), (274, (171, 1, 1, 13), 0, 1653, 1655, 83, 1656, 153), (219, (185, 1, 0, 13), 0, 1658, 1660, 84, 1661, 153), (222, (186, 1, 0, 13), 0, 1664, 1666, 85, 1667, 153), (225, (187, 1, 0, 13), 0, 1669, 1671, 86, 1672, 153), (184, (155, 5, 0, 99), 1, 1673, 1674, 0, 1675, 153), (285, (191, 2, 1, 13), 0, 1688, 1690, 87, 1691, 153), (288, (197, 2, 1, 13), 0, 1692, 1694, 88, 1695, 153), (291, (196, 3, 1, 13), 0, 1696, 1698, 89, 1699, 153), (294, (190, 2, 1, 13), 0, 1704, 1706, 90, 1707, 153), (297, (198, 2, 1, 13), 0, 1708, 1710, 91, 1711, 153), (300, (193, 2, 1, 13), 0, 1716, 1718, 92, 1719, 153), (333, (192, 2, 1, 13), 0, 1724, 1726, 93, 1727, 153), (336, (194, 2, 1, 13), 0, 1728, 1730, 94, 1731, 153), (339, (210, 4, 1, 13), 0, 1732, 1734, 95, 1735, 153), (321, (202, 2, 0, 13), 0, 1736, 1738, 96, 1739, 153), (324, (205, 2, 0, 13), 0, 1740, 1742, 97, 1743, 153), (306, (203, 2, 1, 13), 0, 1744, 1746, 98, 1747, 153), (309, (204, 3, 0, 13), 0, 1748, 1750, 99, 1751, 153), (318, (206, 2, 0, 13), 0, 1752, 1754, 100, 1755, 153), (315, (207, 4, 1, 13), 0, 1756, 1758, 101, 1759, 153), (330, (211, 1, 1, 13), 0, 1760, 1762, 102, 1763, 153), (343, (209, 4, 1, 13), 0, 1776, 1778, 103, 1779, 153), (327, (208, 1, 1, 13), 0, 1780, 1782, 104, 1783, 153), (346, (212, 3, 1, 13), 0, 1788, 1790, 105, 1791, 153), (350, (221, 4, 1, 13), 0, 1808, 1810, 106, 1811, 153), (359, (227, 1, 1, 13), 0, 1824, 1826, 107, 1827, 153), (362, (228, 2, 1, 13), 0, 1828, 1830, 108, 1831, 153), (353, (225, 1, 1, 13), 0, 1832, 1834, 109, 1835, 153), (356, (226, 1, 1, 13), 0, 1836, 1838, 110, 1839, 153), (372, (232, 2, 1, 13), 0, 1852, 1854, 111, 1855, 153), (369, (233, 4, 1, 13), 0, 1857, 1859, 112, 1860, 153), (381, (238, 2, 0, 13), 0, 1869, 1871, 113, 1872, 153), (384, (237, 2, 1, 13), 0, 1873, 1875, 114, 1876, 153), (378, (236, 1, 0, 13), 0, 1877, 1879, 115, 1880, 153), (396, (243, 2, 1, 13), 0, 1885, 1887, 116, 1888, 153), (390, (242, 3, 1, 13), 0, 1889, 1891, 117, 1892, 153), (387, (239, 3, 0, 13), 0, 1893, 1895, 118, 1896, 153), (393, (240, 2, 0, 13), 0, 1897, 1899, 119, 1900, 153), (399, (246, 1, 0, 13), 0, 1909, 1911, 120, 1912, 153), (402, (154, 1, 1, 99), 1, 1913, 1914, 0, 1915, 153), (405, (247, 3, 1, 13), 0, 1916, 1918, 121, 1919, 153), (414, (195, 2, 1, 13), 0, 1928, 1930, 122, 1931, 153), (417, (252, 2, 1, 13), 0, 1932, 1934, 123, 1935, 153), (411, (251, 3, 1, 13), 0, 1936, 1938, 124, 1939, 153), (408, (250, 2, 1, 13), 0, 1940, 1942, 125, 1943, 153), (429, (256, 1, 0, 13), 0, 1948, 1950, 126, 1951, 153), (426, (255, 3, 0, 13), 0, 1952, 1954, 127, 1955, 153), (423, (254, 3, 1, 13), 0, 1956, 1958, 128, 1959, 153), (443, (261, 3, 1, 13), 0, 1968, 1970, 129, 1971, 153), (439, (260, 5, 1, 13), 0, 1972, 1974, 130, 1975, 153), (432, (259, 5, 1, 13), 0, 1976, 1978, 131, 1979, 153), (448, (266, 2, 1, 13), 0, 1998, 2000, 132, 2001, 153), (451, (152, 2, 1, 13), 0, 2006, 2008, 133, 2009, 153), (454, (268, 1, 0, 13), 0, 2010, 2012, 134, 2013, 153)]
def dm_ml_14 : List (Nat × (Nat × Nat × Nat × Nat) × Nat × Nat × Nat × Nat × Nat × Nat) := [(15, (75, 1, 0, 12), 2, 162, 163, 0, 164, 136), (19, (76, 6, 1, 12), 0, 726, 727, 728, 729, 136), (24, (78, 2, 1, 12), 0, 734, 735, 736, 737, 136), (28, (79, 1, 1, 12), 0, 907, 908, 909, 910, 136), (33, (80, 1, 1, 12), 0, 911, 912, 913, 914, 136), (37, (87, 3, 1, 12), 0, 915, 916, 917, 918, 136), (42, (88, 3, 1, 12), 0, 927, 928, 929, 930, 136), (46, (89, 3, 1, 12), 0, 931, 932, 933, 934, 136), (50, (90, 5, 1, 12), 0, 935, 936, 937, 938, 136), (55, (91, 5, 1, 12), 0, 987, 988, 989, 990, 136), (59, (92, 4, 1, 12), 0, 991, 992, 993, 994, 136), (64, (93, 4, 1, 12), 0, 995, 996, 997, 998, 136), (68, (95, 2, 1, 12), 0, 1004, 1005, 1006, 1007, 136), (72, (96, 2, 1, 12), 0, 1012, 1013, 1014, 1015, 136), (76, (97, 2, 1, 12), 0, 1020, 1021, 1022, 1023, 136), (80, (99, 3, 1, 12), 0, 1024, 1025, 1026, 1027, 136), (85, (100, 2, 1, 12), 0, 1028, 1029, 1030, 1031, 136), (89, (101, 3, 1, 12), 0, 1044, 1045, 1046, 1047, 136), (93, (104, 2, 1, 12), 0, 1048, 1049, 1050, 1051, 136), (97, (105, 1, 1, 12), 0, 1053, 1054, 1055, 1056, 136), (101, (106, 1, 1, 12), 0, 1069, 1070, 1071, 1072, 136), (105, (107, 1, 1, 12), 0, 1073, 1074, 1075, 1076, 136), (109, (110, 2, 1, 12), 0, 1077, 1078, 1079, 1080, 136), (113, (111, 2, 1, 12), 0, 1097, 1098, 1099, 1100, 136), (117, (116, 2, 1, 12), 0, 1101, 1102, 1103, 1104, 136), (121, (117, 2, 1, 12), 0, 1111, 1112, 1113, 1114, 136), (125, (118, 3, 1, 12), 0, 1135, 1136, 1137, 1138, 136), (129, (119, 1, 1, 12), 0, 1139, 1140, 1141, 1142, 136), (133, (120, 1, 1, 12), 0, 1161, 1162, 1163, 1164, 136), (137, (124, 2, 1, 12), 0, 1165, 1166, 1167, 1168, 136), (141, (125, 1, 1, 12), 0, 1179, 1180, 1181, 1182, 136), (145, (126, 2, 1, 12), 0, 1193, 1194, 1195, 1196, 136), (149, (127, 3, 1, 12), 0, 1197, 1198, 1199, 1200, 136), (153, (128, 3, 1, 12), 0, 1221, 1222, 1223, 1224, 136), (157, (134, 3, 1, 12), 0, 1225, 1226, 1227, 1228, 136), (161, (136, 2, 1, 12), 0, 1233, 1234, 1235, 1236, 136), (165, (137, 1, 1, 12), 0, 1237, 1238, 1239, 1240, 136), (169, (138, 3, 1, 12), 0, 1245, 1246, 1247, 1248, 136), (174, (139, 3, 1, 12), 0, 1267, 1268, 1269, 1270, 136), (178, (140, 2, 1, 12), 0, 1271, 1272, 1273, 1274, 136), (183, (141, 1, 1, 12), 0, 1275, 1276, 1277, 1278, 136), (187, (142, 1, 1, 12), 0, 1279, 1280, 1281, 1282, 136), (192, (143, 1, 1, 12), 0, 1287, 1288, 1289, 1290, 136), (196, (144, 2, 1, 12), 0, 1295, 1296, 1297, 1298, 136), (209, (146, 2, 1, 12), 0, 1303, 1304, 1305, 1306, 136), (213, (147, 1, 1, 12), 0, 1307, 1308, 1309, 1310, 136), (7, (145, 2, 1, 12), 0, 1315, 1316, 1317, 1318, 136), (18, (148, 1, 0, 13), 2, 1386, 1387, 0, 1388, 153), (206, (149, 1, 1, 13), 0, 1502, 1503, 1504, 1505, 153), (23, (156, 6, 1, 13), 0, 1506, 1507, 1508, 1509, 153), (27, (175, 2, 1, 13), 0, 1510, 1511, 1512, 1513, 153), (32, (188, 1, 1, 13), 0, 1676, 1677, 1678, 1679, 153), (36, (189, 1, 1, 13), 0, 1680, 1681, 1682, 1683, 153), (41, (199, 3, 1, 13), 0, 1684, 1685, 1686, 1687, 153), (45, (200, 3, 1, 13), 0, 1700, 1701, 1702, 1703, 153), (49, (201, 3, 1, 13), 0, 1712, 1713, 1714, 1715, 153), (54, (213, 5, 1, 13), 0, 1720, 1721, 1722, 1723, 153), (58, (214, 5, 1, 13), 0, 1764, 1765, 1766, 1767, 153), (63, (215, 4, 1, 13), 0, 1768, 1769, 1770, 1771, 153), (67, (216, 4, 1, 13), 0, 1772, 1773, 1774, 1775, 153), (71, (217, 2, 1, 13), 0, 1784, 1785, 1786, 1787, 153), (75, (218, 2, 1, 13), 0, 1792, 1793, 1794, 1795, 153), (79, (219, 2, 1, 13), 0, 1796, 1797, 1798, 1799, 153), (84, (220, 3, 1, 13), 0, 1800, 1801, 1802, 1803, 153), (88, (222, 2, 1, 13), 0, 1804, 1805, 1806, 1807, 153), (92, (223, 3, 1, 13), 0, 1812, 1813, 1814, 1815, 153), (96, (224, 2, 1, 13), 0, 1816, 1817, 1818, 1819, 153), (100, (229, 1, 1, 13), 0, 1820, 1821, 1822, 1823, 153), (104, (230, 1, 1, 13), 0, 1840, 1841, 1842, 1843, 153), (108, (231, 1, 1, 13), 0, 1844, 1845, 1846, 1847, 153), (112, (234, 2, 1, 13), 0, 1848, 1849, 1850, 1851, 153), (116, (235, 2, 1, 13), 0, 1861, 1862, 1863, 1864, 153), (120, (241, 2, 1, 13), 0, 1865, 1866, 1867, 1868, 153), (124, (244, 2, 1, 13), 0, 1881, 1882, 1883, 1884, 153), (128, (245, 3, 1, 13), 0, 1901, 1902, 1903, 1904, 153), (132, (248, 1, 1, 13), 0, 1905, 1906, 1907, 1908, 153), (136, (249, 1, 1, 13), 0, 1920, 1921, 1922, 1923, 153), (140, (253, 2, 1, 13), 0, 1924, 1925, 1926, 1927, 153), (144, (257, 1, 1, 13), 0, 1944, 1945, 1946, 1947, 153), (148, (258, 2, 1, 13), 0, 1960, 1961, 1962, 1963, 153), (152, (262, 3, 1, 13), 0, 1964, 1965, 1966, 1967, 153), (156, (263, 3, 1, 13), 0, 1980, 1981, 1982, 1983, 153), (160, (264, 3, 1, 13), 0, 1984, 1985, 1986, 1987, 153), (164, (265, 2, 1, 13), 0, 1990, 1991, 1992, 1993, 153), (168, (267, 1, 1, 13), 0, 1994, 1995, 1996, 1997, 153), (173, (269, 3, 1, 13), 0, 2002, 2003, 2004, 2005, 153), (177, (270, 3, 1, 13), 0, 2014, 2015, 2016, 2017, 153), (182, (271, 2, 1, 13), 0, 2018, 2019, 2020, 2021, 153), (186, (272, 1, 1, 13), 0, 2022, 2023, 2024, 2025, 153), (191, (273, 1, 1, 13), 0, 2026, 2027, 2028, 2029, 153), (195, (274, 1, 1, 13), 0, 2030, 2031, 2032, 2033, 153), (199, (275, 2, 1, 13), 0, 2034, 2035, 2036, 2037, 153), (205, (276, 2, 1, 13), 0, 2038, 2039, 2040, 2041, 153), (212, (277, 2, 1, 13), 0, 2042, 2043, 2044, 2045, 153), (216, (278, 1, 1, 13), 0, 2046, 2047, 2048, 2049, 153)]
def dm_ml (c : Nat) : List (Nat × (Nat × Nat × Nat × Nat) × Nat × Nat × Nat × Nat × Nat × Nat) := match c with
  | 0 => dm_ml_0
  | 1 => dm_ml_1
  | 2 => dm_ml_2
  | 3 => dm_ml_3
  | 4 => dm_ml_4
  | 5 => dm_ml_5
  | 6 => dm_ml_6
  | 7 => dm_ml_7
  | 8 => dm_ml_8
  | 9 => dm_ml_9
  | 10 => dm_ml_10
  | 11 => dm_ml_11
  | 12 => dm_ml_12
  | 13 => dm_ml_13
  | 14 => dm_ml_14
  | _ => []
def dm_kl_0 : List (Nat × Nat × Nat) := [(18, 6, 215)]
def dm_kl_2 : List (Nat × Nat × Nat) := [(9, 1, 590)]
def dm_kl_4 : List (Nat × Nat × Nat) := [(9, 10, 617)]
def dm_kl_5 : List (Nat × Nat × Nat) := [(21, 6, 182), (30, 0, 184), (36, 10, 186), (42, 9, 188)]
def dm_kl_7 : List (Nat × Nat × Nat) := [(9, 11, 453), (29, 5, 485)]
def dm_kl_8 : List (Nat × Nat × Nat) := [(9, 5, 174), (18, 1, 386), (25, 10, 417)]
def dm_kl_12 : List (Nat × Nat × Nat) := [(13, 8, 168), (30, 7, 447), (37, 2, 584), (44, 4, 611), (51, 3, 642)]
def dm_kl_14 : List (Nat × Nat × Nat) := [(8, 12, 160), (16, 13, 1384)]
def dm_kl (c : Nat) : List (Nat × Nat × Nat) := match c with
  | 0 => dm_kl_0
  | 2 => dm_kl_2
  | 4 => dm_kl_4
  | 5 => dm_kl_5
  | 7 => dm_kl_7
  | 8 => dm_kl_8
  | 12 => dm_kl_12
  | 14 => dm_kl_14
  | _ => []
def dm_cl_7 : List (Nat × dm_V × Nat) := [(65, vl (32), 501), (36, vr 90 0, 487), (41, vr 90 1, 540), (43, vr 90 2, 541), (45, vr 90 3, 542), (47, vr 90 4, 543), (49, vr 90 5, 544), (51, vr 90 6, 545), (53, vr 90 7, 546), (55, vr 90 8, 547), (57, vr 90 9, 548), (178, vr 90 10, 795), (188, vr 90 11, 810), (192, vr 90 12, 811), (196, vr 90 13, 812), (213, vr 90 14, 833), (218, vr 90 15, 834), (231, vr 90 16, 835), (250, vr 90 17, 844), (252, vr 90 18, 845), (283, vr 90 19, 862), (285, vr 90 20, 863), (287, vr 90 21, 864), (289, vr 90 22, 865), (291, vr 90 23, 866), (279, vr 90 24, 867), (293, vr 90 25, 872), (295, vr 90 26, 873), (308, vr 90 27, 878)]
def dm_cl_11 : List (Nat × dm_V × Nat) := [(48, vl (32), 765)]
def dm_cl_12 : List (Nat × dm_V × Nat) := [(241, vi (1000000), 1105), (298, vi (65537), 1229), (348, vr 90 28, 1358)]
def dm_cl_13 : List (Nat × dm_V × Nat) := [(365, vi (1000000), 1856), (446, vi (65536), 1988), (447, vi (65537), 1989), (131, vr 90 0, 1543), (228, vr 90 10, 1558), (234, vr 90 11, 1575), (236, vr 90 12, 1576), (238, vr 90 13, 1577), (133, vr 90 1, 1578), (135, vr 90 2, 1595), (137, vr 90 3, 1596), (139, vr 90 4, 1597), (141, vr 90 5, 1598), (143, vr 90 6, 1599), (145, vr 90 7, 1600), (147, vr 90 8, 1601), (149, vr 90 9, 1602), (244, vr 90 15, 1627), (246, vr 90 14, 1628), (254, vr 90 16, 1629), (256, vr 90 17, 1634), (258, vr 90 18, 1635), (264, vr 90 19, 1648), (266, vr 90 20, 1649), (268, vr 90 21, 1650), (270, vr 90 22, 1651), (272, vr 90 23, 1652), (277, vr 90 24, 1657), (279, vr 90 25, 1662), (281, vr 90 26, 1663), (283, vr 90 27, 1668)]
def dm_cl_15 : List (Nat × dm_V × Nat) := [(265, vi (1431655765), 1150), (266, vi (858993459), 1151), (267, vi (252645135), 1152)]
def dm_cl (c : Nat) : List (Nat × dm_V × Nat) := match c with
  | 7 => dm_cl_7
  | 11 => dm_cl_11
  | 12 => dm_cl_12
  | 13 => dm_cl_13
  | 15 => dm_cl_15
  | _ => []
def dm_sl_1 : List (Nat × Nat × Bool) := [(9, 392, true)]
def dm_sl_3 : List (Nat × Nat × Bool) := [(15, 648, true)]
def dm_sl_4 : List (Nat × Nat × Bool) := [(21, 619, true)]
def dm_sl_5 : List (Nat × Nat × Bool) := [(9, 180, true)]
def dm_sl_7 : List (Nat × Nat × Bool) := [(71, 746, true)]
def dm_sl_8 : List (Nat × Nat × Bool) := [(32, 419, true)]
def dm_sl_12 : List (Nat × Nat × Bool) := [(58, 676, false)]
def dm_sl (c : Nat) : List (Nat × Nat × Bool) := match c with
  | 1 => dm_sl_1
  | 3 => dm_sl_3
  | 4 => dm_sl_4
  | 5 => dm_sl_5
  | 7 => dm_sl_7
  | 8 => dm_sl_8
  | 12 => dm_sl_12
  | _ => []
def dm_strl : List (List Int32) := [[109, 117, 115, 101, 117, 109], [116, 104, 105, 110, 103], [104, 97, 114, 109], [100, 101, 101, 100], [112, 108, 97, 110], [115, 108, 105, 112], [112, 101, 114, 115, 111, 110], [97, 115, 107, 115], [101, 110, 100, 115], [105, 102], [119, 101, 101, 107, 115], [98, 114, 101, 97, 107, 115], [102, 105, 110, 101], [103, 114, 111, 119, 110], [111, 118, 101, 114], [117, 110, 100, 101, 114], [99, 111, 115, 116, 115], [97, 100, 100, 115], [116, 97, 107, 101, 115], [108, 101, 102, 116], [116, 119, 105, 99, 101], [116, 117, 114, 110, 101, 100], [101, 97, 114, 108, 121], [102, 111, 114], [111, 102, 116, 101, 110], [99, 104, 105, 108, 100], [100, 111, 110, 111, 114], [112, 97, 121, 115], [110, 111, 32, 115, 117, 99, 104, 32, 115, 108, 105, 112, 32, 105, 115, 32, 111, 117, 116]]
def dm_txt : List String := ["museum", "thing", "harm", "deed", "plan", "slip", "person", "asks", "ends", "if", "weeks", "breaks", "fine", "grown", "over", "under", "costs", "adds", "takes", "left", "twice", "turned", "early", "for", "often", "child", "donor", "pays", "no such slip is out"]
/-- the pools -/
def dmE : dm_E := (fun c k => (dm_lk (dm_fl c) k).map (fun q => (q.1, q.2.1)), fun c k => (dm_lk (dm_ml c) k).map (fun q => q.1), fun c k => (dm_lk (dm_kl c) k).map (fun q => q.1), fun c k => (dm_lk (dm_cl c) k).map (fun q => q.1), fun c k => (dm_lk (dm_sl c) k).map (fun _ => vr 92 0), fun j => (dm_strl.getD j []).length, fun j k => (dm_strl.getD j []).getD k 0)
