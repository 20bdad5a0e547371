/-! ===== BEGIN words of one list among another's, by their places ===== -/
theorem goodIn_r {big : List Cond} (ws : List Cond) (ps : List Nat) (hp : ws = ps.filterMap (fun i => big[i]?)) (h : ws.all goodWord = true) : GoodIn big ws := by
  intro w hw
  have h1 := List.all_eq_true.mp h w hw
  rw [hp] at hw
  obtain ⟨i, -, hi⟩ := List.mem_filterMap.mp hw
  have hm : w ∈ big := by first | exact List.mem_of_getElem? hi | exact List.getElem?_mem hi
  exact ⟨hm, good_of_word h1⟩
theorem goodIn_app {big a b : List Cond} (ha : GoodIn big a) (hb : GoodIn big b) : GoodIn big (a ++ b) := fun w h => (List.mem_append.mp h).elim (ha w) (hb w)
theorem goodIn_ca {big a b : List Cond} {c : Cond} (ha : GoodIn big (c :: a)) (hb : GoodIn big b) : GoodIn big (c :: (a ++ b)) := fun w h => (List.mem_cons.mp h).elim (fun e => ha w (List.mem_cons.mpr (Or.inl e))) (fun h => (List.mem_append.mp h).elim (fun h => ha w (List.mem_cons.mpr (Or.inr h))) (hb w))
theorem goodIn_sub {big ws : List Cond} (hm : ∀ w ∈ ws, w ∈ big) (h : ws.all goodWord = true) : GoodIn big ws := fun w hw => ⟨hm w hw, good_of_word (List.all_eq_true.mp h w hw)⟩
/-! ===== END ===== -/


def RX0 : String := "LaneSlices$Deed"
def TX0 : u_T := fun k => match k with
  | 0 => ("LaneSlices$Deed", "kind", "I", false)
  | 1 => ("LaneSlices$Deed", "target", "I", false)
  | 2 => ("LaneSlices$Deed", "source", "I", false)
  | 3 => ("LaneSlices$Deed", "way", "I", false)
  | 4 => ("LaneSlices$Deed", "formula", "LLaneSlices$Formula;", false)
  | 5 => ("LaneSlices$Deed", "inner", "LLaneSlices$Deed;", false)
  | 6 => ("LaneSlices$Deed", "otherwise", "LLaneSlices$Deed;", false)
  | _ => ("LaneSlices$Deed", "next", "LLaneSlices$Deed;", false)
def tyX0 : Nat → FieldType := fun k => match k with
  | 0 => .int
  | 1 => .int
  | 2 => .int
  | 3 => .int
  | 4 => .object "LaneSlices$Formula"
  | 5 => .object "LaneSlices$Deed"
  | 6 => .object "LaneSlices$Deed"
  | _ => .object "LaneSlices$Deed"
abbrev wsX00 : List Cond := u_ws RX0 TX0 8
theorem nmX0 : ∀ a, a < 8 → ∀ b, b < 8 → a ≠ b → (TX0 a).2.1 ≠ (TX0 b).2.1 := by decide +kernel
theorem tyX0_ok : ∀ k, k < 8 → parseFieldDescriptor (TX0 k).2.2.1 = some (tyX0 k) := by decide +kernel
def RX1 : String := "LaneSlices$Formula"
def TX1 : u_T := fun k => match k with
  | 0 => ("LaneSlices$Formula", "words", "[I", true)
  | _ => ("LaneSlices$Formula", "cost", "I", true)
def tyX1 : Nat → FieldType := fun k => match k with
  | 0 => .array .int
  | _ => .int
abbrev wsX10 : List Cond := u_ws RX1 TX1 2
theorem nmX1 : ∀ a, a < 2 → ∀ b, b < 2 → a ≠ b → (TX1 a).2.1 ≠ (TX1 b).2.1 := by decide +kernel
theorem tyX1_ok : ∀ k, k < 2 → parseFieldDescriptor (TX1 k).2.2.1 = some (tyX1 k) := by decide +kernel
def RX2 : String := "LaneSlices$Masks"
def TX2 : u_T := fun k => match k with
  | 0 => ("LaneSlices$Masks", "sets", "[J", true)
  | _ => ("LaneSlices$Masks", "height", "I", false)
def tyX2 : Nat → FieldType := fun k => match k with
  | 0 => .array .long
  | _ => .int
abbrev wsX20 : List Cond := u_ws RX2 TX2 2
theorem nmX2 : ∀ a, a < 2 → ∀ b, b < 2 → a ≠ b → (TX2 a).2.1 ≠ (TX2 b).2.1 := by decide +kernel
theorem tyX2_ok : ∀ k, k < 2 → parseFieldDescriptor (TX2 k).2.2.1 = some (tyX2 k) := by decide +kernel
def RX3 : String := "LaneSlices$Program"
def TX3 : u_T := fun k => match k with
  | 0 => ("LaneSlices$Program", "start", "LLaneSlices$Deed;", true)
  | _ => ("LaneSlices$Program", "deeds", "I", true)
def tyX3 : Nat → FieldType := fun k => match k with
  | 0 => .object "LaneSlices$Deed"
  | _ => .int
abbrev wsX30 : List Cond := u_ws RX3 TX3 2
theorem nmX3 : ∀ a, a < 2 → ∀ b, b < 2 → a ≠ b → (TX3 a).2.1 ≠ (TX3 b).2.1 := by decide +kernel
theorem tyX3_ok : ∀ k, k < 2 → parseFieldDescriptor (TX3 k).2.2.1 = some (tyX3 k) := by decide +kernel
def RX4 : String := "LaneSlices$Reader"
def TX4 : u_T := fun k => match k with
  | 0 => ("LaneSlices$Reader", "tape", "LLaneSlices$Tape;", true)
  | 1 => ("LaneSlices$Reader", "words", "[I", true)
  | 2 => ("LaneSlices$Reader", "size", "I", false)
  | 3 => ("LaneSlices$Reader", "cost", "I", false)
  | 4 => ("LaneSlices$Reader", "place", "I", false)
  | 5 => ("LaneSlices$Reader", "deeds", "I", false)
  | _ => ("LaneSlices$Reader", "fault", "I", false)
def tyX4 : Nat → FieldType := fun k => match k with
  | 0 => .object "LaneSlices$Tape"
  | 1 => .array .int
  | 2 => .int
  | 3 => .int
  | 4 => .int
  | 5 => .int
  | _ => .int
abbrev wsX40 : List Cond := u_ws RX4 TX4 7
theorem nmX4 : ∀ a, a < 7 → ∀ b, b < 7 → a ≠ b → (TX4 a).2.1 ≠ (TX4 b).2.1 := by decide +kernel
theorem tyX4_ok : ∀ k, k < 7 → parseFieldDescriptor (TX4 k).2.2.1 = some (tyX4 k) := by decide +kernel
def RX5 : String := "LaneSlices$Shelf"
def TX5 : u_T := fun k => match k with
  | 0 => ("LaneSlices$Shelf", "numbers", "[J", true)
  | 1 => ("LaneSlices$Shelf", "sort", "I", false)
  | _ => ("LaneSlices$Shelf", "length", "I", false)
def tyX5 : Nat → FieldType := fun k => match k with
  | 0 => .array .long
  | 1 => .int
  | _ => .int
abbrev wsX50 : List Cond := u_ws RX5 TX5 3
theorem nmX5 : ∀ a, a < 3 → ∀ b, b < 3 → a ≠ b → (TX5 a).2.1 ≠ (TX5 b).2.1 := by decide +kernel
theorem tyX5_ok : ∀ k, k < 3 → parseFieldDescriptor (TX5 k).2.2.1 = some (tyX5 k) := by decide +kernel
def RX6 : String := "LaneSlices$Slices"
def TX6 : u_T := fun k => match k with
  | _ => ("LaneSlices$Slices", "planes", "[J", true)
def tyX6 : Nat → FieldType := fun k => match k with
  | _ => .array .long
abbrev wsX60 : List Cond := u_ws RX6 TX6 1
theorem nmX6 : ∀ a, a < 1 → ∀ b, b < 1 → a ≠ b → (TX6 a).2.1 ≠ (TX6 b).2.1 := by decide +kernel
theorem tyX6_ok : ∀ k, k < 1 → parseFieldDescriptor (TX6 k).2.2.1 = some (tyX6 k) := by decide +kernel
def RX7 : String := "LaneSlices$Tape"
def TX7 : u_T := fun k => match k with
  | 0 => ("LaneSlices$Tape", "bytes", "[I", true)
  | _ => ("LaneSlices$Tape", "length", "I", false)
def tyX7 : Nat → FieldType := fun k => match k with
  | 0 => .array .int
  | _ => .int
abbrev wsX70 : List Cond := u_ws RX7 TX7 2
theorem nmX7 : ∀ a, a < 2 → ∀ b, b < 2 → a ≠ b → (TX7 a).2.1 ≠ (TX7 b).2.1 := by decide +kernel
theorem tyX7_ok : ∀ k, k < 2 → parseFieldDescriptor (TX7 k).2.2.1 = some (tyX7 k) := by decide +kernel
def RX8 : String := "LaneSlices$Variables"
def TX8 : u_T := fun k => match k with
  | _ => ("LaneSlices$Variables", "all", "[LLaneSlices$Slices;", true)
def tyX8 : Nat → FieldType := fun k => match k with
  | _ => .array (.object "LaneSlices$Slices")
abbrev wsX80 : List Cond := u_ws RX8 TX8 1
theorem nmX8 : ∀ a, a < 1 → ∀ b, b < 1 → a ≠ b → (TX8 a).2.1 ≠ (TX8 b).2.1 := by decide +kernel
theorem tyX8_ok : ∀ k, k < 1 → parseFieldDescriptor (TX8 k).2.2.1 = some (tyX8 k) := by decide +kernel
def RX9 : String := "LaneSlices$Walker"
def TX9 : u_T := fun k => match k with
  | 0 => ("LaneSlices$Walker", "held", "[LLaneSlices$Slices;", true)
  | 1 => ("LaneSlices$Walker", "come", "LLaneSlices$Slices;", true)
  | 2 => ("LaneSlices$Walker", "variables", "LLaneSlices$Variables;", true)
  | 3 => ("LaneSlices$Walker", "edge", "I", false)
  | _ => ("LaneSlices$Walker", "taken", "I", false)
def tyX9 : Nat → FieldType := fun k => match k with
  | 0 => .array (.object "LaneSlices$Slices")
  | 1 => .object "LaneSlices$Slices"
  | 2 => .object "LaneSlices$Variables"
  | 3 => .int
  | _ => .int
abbrev wsX90 : List Cond := u_ws RX9 TX9 5
theorem nmX9 : ∀ a, a < 5 → ∀ b, b < 5 → a ≠ b → (TX9 a).2.1 ≠ (TX9 b).2.1 := by decide +kernel
theorem tyX9_ok : ∀ k, k < 5 → parseFieldDescriptor (TX9 k).2.2.1 = some (tyX9 k) := by decide +kernel
def RX10 : String := "LaneSlices$Whole"
def TX10 : u_T := fun k => match k with
  | 0 => ("LaneSlices$Whole", "variables", "LLaneSlices$Variables;", true)
  | 1 => ("LaneSlices$Whole", "masks", "LLaneSlices$Masks;", true)
  | 2 => ("LaneSlices$Whole", "edge", "I", false)
  | 3 => ("LaneSlices$Whole", "steps", "I", false)
  | _ => ("LaneSlices$Whole", "program", "LLaneSlices$Program;", false)
def tyX10 : Nat → FieldType := fun k => match k with
  | 0 => .object "LaneSlices$Variables"
  | 1 => .object "LaneSlices$Masks"
  | 2 => .int
  | 3 => .int
  | _ => .object "LaneSlices$Program"
abbrev wsX100 : List Cond := u_ws RX10 TX10 5
theorem nmX10 : ∀ a, a < 5 → ∀ b, b < 5 → a ≠ b → (TX10 a).2.1 ≠ (TX10 b).2.1 := by decide +kernel
theorem tyX10_ok : ∀ k, k < 5 → parseFieldDescriptor (TX10 k).2.2.1 = some (tyX10 k) := by decide +kernel
def RX11 : String := "LaneSlices"
def TX11 : u_T := fun k => match k with
  | 0 => ("LaneSlices", "now", "LLaneSlices$Whole;", true)
  | 1 => ("LaneSlices", "kept", "LLaneSlices$Whole;", true)
  | 2 => ("LaneSlices", "isKept", "Z", false)
  | 3 => ("LaneSlices", "shelves", "[LLaneSlices$Shelf;", true)
  | 4 => ("LaneSlices", "refusals", "[I", true)
  | 5 => ("LaneSlices", "reader", "LLaneSlices$Reader;", true)
  | 6 => ("LaneSlices", "walker", "LLaneSlices$Walker;", true)
  | 7 => ("LaneSlices", "earlier", "LLaneSlices$Variables;", true)
  | _ => ("LaneSlices", "spare", "LLaneSlices$Slices;", true)
def tyX11 : Nat → FieldType := fun k => match k with
  | 0 => .object "LaneSlices$Whole"
  | 1 => .object "LaneSlices$Whole"
  | 2 => .boolean
  | 3 => .array (.object "LaneSlices$Shelf")
  | 4 => .array .int
  | 5 => .object "LaneSlices$Reader"
  | 6 => .object "LaneSlices$Walker"
  | 7 => .object "LaneSlices$Variables"
  | _ => .object "LaneSlices$Slices"
abbrev wsX110 : List Cond := u_ws RX11 TX11 9
theorem nmX11 : ∀ a, a < 9 → ∀ b, b < 9 → a ≠ b → (TX11 a).2.1 ≠ (TX11 b).2.1 := by decide +kernel
theorem tyX11_ok : ∀ k, k < 9 → parseFieldDescriptor (TX11 k).2.2.1 = some (tyX11 k) := by decide +kernel
def RX12 : String := "LaneSlicesModel"
def TX12 : u_T := fun k => match k with
  | 0 => ("LaneSlicesModel", "refused", "[I", true)
  | 1 => ("LaneSlicesModel", "x", "[I", true)
  | 2 => ("LaneSlicesModel", "before", "[I", true)
  | 3 => ("LaneSlicesModel", "start", "[I", true)
  | 4 => ("LaneSlicesModel", "keptX", "[I", true)
  | 5 => ("LaneSlicesModel", "masks", "[J", true)
  | 6 => ("LaneSlicesModel", "keptMasks", "[J", true)
  | 7 => ("LaneSlicesModel", "maskMany", "I", false)
  | 8 => ("LaneSlicesModel", "keptMaskMany", "I", false)
  | 9 => ("LaneSlicesModel", "edge", "I", false)
  | 10 => ("LaneSlicesModel", "keptEdge", "I", false)
  | 11 => ("LaneSlicesModel", "steps", "I", false)
  | 12 => ("LaneSlicesModel", "keptSteps", "I", false)
  | 13 => ("LaneSlicesModel", "isKept", "Z", false)
  | 14 => ("LaneSlicesModel", "node", "[I", true)
  | 15 => ("LaneSlicesModel", "keptNode", "[I", true)
  | 16 => ("LaneSlicesModel", "fresh", "[I", true)
  | 17 => ("LaneSlicesModel", "says", "I", false)
  | 18 => ("LaneSlicesModel", "keptSays", "I", false)
  | 19 => ("LaneSlicesModel", "freshMany", "I", false)
  | 20 => ("LaneSlicesModel", "freshSays", "I", false)
  | 21 => ("LaneSlicesModel", "tape", "[I", true)
  | 22 => ("LaneSlicesModel", "taped", "I", false)
  | 23 => ("LaneSlicesModel", "shelf", "[J", true)
  | 24 => ("LaneSlicesModel", "shelfSort", "[I", true)
  | 25 => ("LaneSlicesModel", "shelfMany", "[I", true)
  | 26 => ("LaneSlicesModel", "comes", "[I", true)
  | 27 => ("LaneSlicesModel", "at", "I", false)
  | 28 => ("LaneSlicesModel", "ended", "I", false)
  | 29 => ("LaneSlicesModel", "wrong", "I", false)
  | 30 => ("LaneSlicesModel", "brackets", "I", false)
  | 31 => ("LaneSlicesModel", "loops", "I", false)
  | 32 => ("LaneSlicesModel", "inner", "I", false)
  | 33 => ("LaneSlicesModel", "firstSaid", "I", false)
  | 34 => ("LaneSlicesModel", "keptFirst", "I", false)
  | 35 => ("LaneSlicesModel", "value", "[I", true)
  | _ => ("LaneSlicesModel", "taken", "I", false)
def tyX12 : Nat → FieldType := fun k => match k with
  | 0 => .array .int
  | 1 => .array .int
  | 2 => .array .int
  | 3 => .array .int
  | 4 => .array .int
  | 5 => .array .long
  | 6 => .array .long
  | 7 => .int
  | 8 => .int
  | 9 => .int
  | 10 => .int
  | 11 => .int
  | 12 => .int
  | 13 => .boolean
  | 14 => .array .int
  | 15 => .array .int
  | 16 => .array .int
  | 17 => .int
  | 18 => .int
  | 19 => .int
  | 20 => .int
  | 21 => .array .int
  | 22 => .int
  | 23 => .array .long
  | 24 => .array .int
  | 25 => .array .int
  | 26 => .array .int
  | 27 => .int
  | 28 => .int
  | 29 => .int
  | 30 => .int
  | 31 => .int
  | 32 => .int
  | 33 => .int
  | 34 => .int
  | 35 => .array .int
  | _ => .int
abbrev wsX120 : List Cond := u_ws RX12 TX12 37
theorem nmX12 : ∀ a, a < 37 → ∀ b, b < 37 → a ≠ b → (TX12 a).2.1 ≠ (TX12 b).2.1 := by decide +kernel
theorem tyX12_ok : ∀ k, k < 37 → parseFieldDescriptor (TX12 k).2.2.1 = some (tyX12 k) := by decide +kernel
abbrev vwCl : List vw_C := [(RX0, TX0, 8), (RX1, TX1, 2), (RX2, TX2, 2), (RX3, TX3, 2), (RX4, TX4, 7), (RX5, TX5, 3), (RX6, TX6, 1), (RX7, TX7, 2), (RX8, TX8, 1), (RX9, TX9, 5), (RX10, TX10, 5), (RX11, TX11, 9), (RX12, TX12, 37)]
