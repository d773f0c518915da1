def R_O : String := "OneSelf"
def T_O : u_T := fun k => match k with
  | 0 => ("OneSelf", "sheets", "LOneSelf$Sheets;", true)
  | 1 => ("OneSelf", "pairs", "LOneSelf$Pairs;", true)
  | 2 => ("OneSelf", "rows", "LOneSelf$Rows;", true)
  | 3 => ("OneSelf", "slips", "LOneSelf$Slips;", true)
  | 4 => ("OneSelf", "sounds", "LOneSelf$Sounds;", true)
  | 5 => ("OneSelf", "weights", "LOneSelf$Weights;", true)
  | 6 => ("OneSelf", "laying", "LOneSelf$Laying;", true)
  | 7 => ("OneSelf", "bundles", "LOneSelf$Bundles;", true)
  | 8 => ("OneSelf", "cut", "LOneSelf$Cut;", true)
  | 9 => ("OneSelf", "checks", "LOneSelf$Checks;", true)
  | _ => ("OneSelf", "keys", "LOneSelf$Keys;", true)
def ft_O : Nat → FieldType := fun k => match k with
  | 0 => .object "OneSelf$Sheets"
  | 1 => .object "OneSelf$Pairs"
  | 2 => .object "OneSelf$Rows"
  | 3 => .object "OneSelf$Slips"
  | 4 => .object "OneSelf$Sounds"
  | 5 => .object "OneSelf$Weights"
  | 6 => .object "OneSelf$Laying"
  | 7 => .object "OneSelf$Bundles"
  | 8 => .object "OneSelf$Cut"
  | 9 => .object "OneSelf$Checks"
  | _ => .object "OneSelf$Keys"
theorem fn_O : ∀ a, a < 11 → ∀ b, b < 11 → a ≠ b → (T_O a).2.1 ≠ (T_O b).2.1 := by decide +kernel
theorem ft_O_ok : ∀ k, k < 11 → parseFieldDescriptor (T_O k).2.2.1 = some (ft_O k) := by decide +kernel
theorem in_O : ∀ w' ∈ u_ws R_O T_O 11, w' ∈ tb_g := by decide +kernel
def R_Sheets : String := "OneSelf$Sheets"
def T_Sheets : u_T := fun k => match k with
  | 0 => ("OneSelf$Sheets", "types", "[I", true)
  | 1 => ("OneSelf$Sheets", "sizes", "[I", true)
  | 2 => ("OneSelf$Sheets", "items", "[I", true)
  | _ => ("OneSelf$Sheets", "latest", "I", false)
def ft_Sheets : Nat → FieldType := fun k => match k with
  | 0 => .array .int
  | 1 => .array .int
  | 2 => .array .int
  | _ => .int
theorem fn_Sheets : ∀ a, a < 4 → ∀ b, b < 4 → a ≠ b → (T_Sheets a).2.1 ≠ (T_Sheets b).2.1 := by decide +kernel
theorem ft_Sheets_ok : ∀ k, k < 4 → parseFieldDescriptor (T_Sheets k).2.2.1 = some (ft_Sheets k) := by decide +kernel
theorem in_Sheets : ∀ w' ∈ u_ws R_Sheets T_Sheets 4, w' ∈ tb_g := by decide +kernel
def R_Pairs : String := "OneSelf$Pairs"
def T_Pairs : u_T := fun k => match k with
  | 0 => ("OneSelf$Pairs", "rows", "LOneSelf$Rows;", true)
  | 1 => ("OneSelf$Pairs", "slips", "LOneSelf$Slips;", true)
  | 2 => ("OneSelf$Pairs", "sounds", "LOneSelf$Sounds;", true)
  | _ => ("OneSelf$Pairs", "weights", "LOneSelf$Weights;", true)
def ft_Pairs : Nat → FieldType := fun k => match k with
  | 0 => .object "OneSelf$Rows"
  | 1 => .object "OneSelf$Slips"
  | 2 => .object "OneSelf$Sounds"
  | _ => .object "OneSelf$Weights"
theorem fn_Pairs : ∀ a, a < 4 → ∀ b, b < 4 → a ≠ b → (T_Pairs a).2.1 ≠ (T_Pairs b).2.1 := by decide +kernel
theorem ft_Pairs_ok : ∀ k, k < 4 → parseFieldDescriptor (T_Pairs k).2.2.1 = some (ft_Pairs k) := by decide +kernel
theorem in_Pairs : ∀ w' ∈ u_ws R_Pairs T_Pairs 4, w' ∈ tb_g := by decide +kernel
def R_Rows : String := "OneSelf$Rows"
def T_Rows : u_T := fun k => match k with
  | 0 => ("OneSelf$Rows", "facts", "[I", true)
  | 1 => ("OneSelf$Rows", "letters", "[I", true)
  | 2 => ("OneSelf$Rows", "many", "I", false)
  | 3 => ("OneSelf$Rows", "day", "I", false)
  | _ => ("OneSelf$Rows", "asOf", "I", false)
def ft_Rows : Nat → FieldType := fun k => match k with
  | 0 => .array .int
  | 1 => .array .int
  | 2 => .int
  | 3 => .int
  | _ => .int
theorem fn_Rows : ∀ a, a < 5 → ∀ b, b < 5 → a ≠ b → (T_Rows a).2.1 ≠ (T_Rows b).2.1 := by decide +kernel
theorem ft_Rows_ok : ∀ k, k < 5 → parseFieldDescriptor (T_Rows k).2.2.1 = some (ft_Rows k) := by decide +kernel
theorem in_Rows : ∀ w' ∈ u_ws R_Rows T_Rows 5, w' ∈ tb_g := by decide +kernel
def R_Slips : String := "OneSelf$Slips"
def T_Slips : u_T := fun k => match k with
  | 0 => ("OneSelf$Slips", "counts", "[I", true)
  | _ => ("OneSelf$Slips", "steps", "[I", true)
def ft_Slips : Nat → FieldType := fun k => match k with
  | 0 => .array .int
  | _ => .array .int
theorem fn_Slips : ∀ a, a < 2 → ∀ b, b < 2 → a ≠ b → (T_Slips a).2.1 ≠ (T_Slips b).2.1 := by decide +kernel
theorem ft_Slips_ok : ∀ k, k < 2 → parseFieldDescriptor (T_Slips k).2.2.1 = some (ft_Slips k) := by decide +kernel
theorem in_Slips : ∀ w' ∈ u_ws R_Slips T_Slips 2, w' ∈ tb_g := by decide +kernel
def R_Sounds : String := "OneSelf$Sounds"
def T_Sounds : u_T := fun k => match k with
  | 0 => ("OneSelf$Sounds", "text", "[I", true)
  | 1 => ("OneSelf$Sounds", "figures", "[I", true)
  | 2 => ("OneSelf$Sounds", "signs", "[I", true)
  | 3 => ("OneSelf$Sounds", "lengths", "[I", true)
  | 4 => ("OneSelf$Sounds", "many", "I", false)
  | _ => ("OneSelf$Sounds", "fault", "I", false)
def ft_Sounds : Nat → FieldType := fun k => match k with
  | 0 => .array .int
  | 1 => .array .int
  | 2 => .array .int
  | 3 => .array .int
  | 4 => .int
  | _ => .int
theorem fn_Sounds : ∀ a, a < 6 → ∀ b, b < 6 → a ≠ b → (T_Sounds a).2.1 ≠ (T_Sounds b).2.1 := by decide +kernel
theorem ft_Sounds_ok : ∀ k, k < 6 → parseFieldDescriptor (T_Sounds k).2.2.1 = some (ft_Sounds k) := by decide +kernel
theorem in_Sounds : ∀ w' ∈ u_ws R_Sounds T_Sounds 6, w' ∈ tb_g := by decide +kernel
def R_Weights : String := "OneSelf$Weights"
def T_Weights : u_T := fun k => match k with
  | 0 => ("OneSelf$Weights", "ways", "[I", true)
  | 1 => ("OneSelf$Weights", "points", "[I", true)
  | 2 => ("OneSelf$Weights", "chancesOfOne", "[I", true)
  | 3 => ("OneSelf$Weights", "chancesOfNot", "[I", true)
  | _ => ("OneSelf$Weights", "line", "I", false)
def ft_Weights : Nat → FieldType := fun k => match k with
  | 0 => .array .int
  | 1 => .array .int
  | 2 => .array .int
  | 3 => .array .int
  | _ => .int
theorem fn_Weights : ∀ a, a < 5 → ∀ b, b < 5 → a ≠ b → (T_Weights a).2.1 ≠ (T_Weights b).2.1 := by decide +kernel
theorem ft_Weights_ok : ∀ k, k < 5 → parseFieldDescriptor (T_Weights k).2.2.1 = some (ft_Weights k) := by decide +kernel
theorem in_Weights : ∀ w' ∈ u_ws R_Weights T_Weights 5, w' ∈ tb_g := by decide +kernel
def R_Laying : String := "OneSelf$Laying"
def T_Laying : u_T := fun k => match k with
  | 0 => ("OneSelf$Laying", "left", "[I", true)
  | 1 => ("OneSelf$Laying", "right", "[I", true)
  | 2 => ("OneSelf$Laying", "gains", "[J", true)
  | 3 => ("OneSelf$Laying", "best", "[J", true)
  | 4 => ("OneSelf$Laying", "lefts", "I", false)
  | 5 => ("OneSelf$Laying", "rights", "I", false)
  | _ => ("OneSelf$Laying", "whole", "J", false)
def ft_Laying : Nat → FieldType := fun k => match k with
  | 0 => .array .int
  | 1 => .array .int
  | 2 => .array .long
  | 3 => .array .long
  | 4 => .int
  | 5 => .int
  | _ => .long
theorem fn_Laying : ∀ a, a < 7 → ∀ b, b < 7 → a ≠ b → (T_Laying a).2.1 ≠ (T_Laying b).2.1 := by decide +kernel
theorem ft_Laying_ok : ∀ k, k < 7 → parseFieldDescriptor (T_Laying k).2.2.1 = some (ft_Laying k) := by decide +kernel
theorem in_Laying : ∀ w' ∈ u_ws R_Laying T_Laying 7, w' ∈ tb_g := by decide +kernel
def R_Bundles : String := "OneSelf$Bundles"
def T_Bundles : u_T := fun k => match k with
  | 0 => ("OneSelf$Bundles", "numbers", "[I", true)
  | _ => ("OneSelf$Bundles", "many", "I", false)
def ft_Bundles : Nat → FieldType := fun k => match k with
  | 0 => .array .int
  | _ => .int
theorem fn_Bundles : ∀ a, a < 2 → ∀ b, b < 2 → a ≠ b → (T_Bundles a).2.1 ≠ (T_Bundles b).2.1 := by decide +kernel
theorem ft_Bundles_ok : ∀ k, k < 2 → parseFieldDescriptor (T_Bundles k).2.2.1 = some (ft_Bundles k) := by decide +kernel
theorem in_Bundles : ∀ w' ∈ u_ws R_Bundles T_Bundles 2, w' ∈ tb_g := by decide +kernel
def R_Cut : String := "OneSelf$Cut"
def T_Cut : u_T := fun k => match k with
  | 0 => ("OneSelf$Cut", "members", "[I", true)
  | 1 => ("OneSelf$Cut", "room", "[I", true)
  | 2 => ("OneSelf$Cut", "reached", "[I", true)
  | 3 => ("OneSelf$Cut", "cameFrom", "[I", true)
  | _ => ("OneSelf$Cut", "many", "I", false)
def ft_Cut : Nat → FieldType := fun k => match k with
  | 0 => .array .int
  | 1 => .array .int
  | 2 => .array .int
  | 3 => .array .int
  | _ => .int
theorem fn_Cut : ∀ a, a < 5 → ∀ b, b < 5 → a ≠ b → (T_Cut a).2.1 ≠ (T_Cut b).2.1 := by decide +kernel
theorem ft_Cut_ok : ∀ k, k < 5 → parseFieldDescriptor (T_Cut k).2.2.1 = some (ft_Cut k) := by decide +kernel
theorem in_Cut : ∀ w' ∈ u_ws R_Cut T_Cut 5, w' ∈ tb_g := by decide +kernel
def R_Checks : String := "OneSelf$Checks"
def T_Checks : u_T := fun k => match k with
  | 0 => ("OneSelf$Checks", "firsts", "[I", true)
  | 1 => ("OneSelf$Checks", "seconds", "[I", true)
  | 2 => ("OneSelf$Checks", "ones", "[Z", true)
  | _ => ("OneSelf$Checks", "many", "I", false)
def ft_Checks : Nat → FieldType := fun k => match k with
  | 0 => .array .int
  | 1 => .array .int
  | 2 => .array .boolean
  | _ => .int
theorem fn_Checks : ∀ a, a < 4 → ∀ b, b < 4 → a ≠ b → (T_Checks a).2.1 ≠ (T_Checks b).2.1 := by decide +kernel
theorem ft_Checks_ok : ∀ k, k < 4 → parseFieldDescriptor (T_Checks k).2.2.1 = some (ft_Checks k) := by decide +kernel
theorem in_Checks : ∀ w' ∈ u_ws R_Checks T_Checks 4, w' ∈ tb_g := by decide +kernel
def R_Keys : String := "OneSelf$Keys"
def T_Keys : u_T := fun k => match k with
  | 0 => ("OneSelf$Keys", "tallies", "[I", true)
  | _ => ("OneSelf$Keys", "demanded", "[Z", true)
def ft_Keys : Nat → FieldType := fun k => match k with
  | 0 => .array .int
  | _ => .array .boolean
theorem fn_Keys : ∀ a, a < 2 → ∀ b, b < 2 → a ≠ b → (T_Keys a).2.1 ≠ (T_Keys b).2.1 := by decide +kernel
theorem ft_Keys_ok : ∀ k, k < 2 → parseFieldDescriptor (T_Keys k).2.2.1 = some (ft_Keys k) := by decide +kernel
theorem in_Keys : ∀ w' ∈ u_ws R_Keys T_Keys 2, w' ∈ tb_g := by decide +kernel
def R_M : String := "OneSelfModel"
def T_M : u_T := fun k => match k with
  | 0 => ("OneSelfModel", "day", "I", false)
  | 1 => ("OneSelfModel", "rows", "I", false)
  | 2 => ("OneSelfModel", "registerOf", "[I", true)
  | 3 => ("OneSelfModel", "letters", "[I", true)
  | 4 => ("OneSelfModel", "lengths", "[I", true)
  | 5 => ("OneSelfModel", "yearOf", "[I", true)
  | 6 => ("OneSelfModel", "placeOf", "[I", true)
  | 7 => ("OneSelfModel", "sortOf", "[I", true)
  | 8 => ("OneSelfModel", "told", "[I", true)
  | 9 => ("OneSelfModel", "back", "[I", true)
  | 10 => ("OneSelfModel", "knownTo", "I", false)
  | 11 => ("OneSelfModel", "ways", "[I", true)
  | 12 => ("OneSelfModel", "typed", "I", false)
  | 13 => ("OneSelfModel", "text", "[I", true)
  | 14 => ("OneSelfModel", "figureOf", "[I", true)
  | 15 => ("OneSelfModel", "isRead", "Z", false)
  | 16 => ("OneSelfModel", "faultNow", "I", false)
  | 17 => ("OneSelfModel", "sounds", "[I", true)
  | 18 => ("OneSelfModel", "soundMany", "[I", true)
  | 19 => ("OneSelfModel", "costs", "[I", true)
  | 20 => ("OneSelfModel", "pointsOf", "[I", true)
  | 21 => ("OneSelfModel", "chances", "[I", true)
  | 22 => ("OneSelfModel", "oddsTop", "J", false)
  | 23 => ("OneSelfModel", "oddsBottom", "J", false)
  | 24 => ("OneSelfModel", "lineNow", "I", false)
  | 25 => ("OneSelfModel", "isLink", "[Z", true)
  | 26 => ("OneSelfModel", "linkMany", "I", false)
  | 27 => ("OneSelfModel", "ofA", "I", false)
  | 28 => ("OneSelfModel", "ofB", "I", false)
  | 29 => ("OneSelfModel", "rowsA", "[I", true)
  | 30 => ("OneSelfModel", "rowsB", "[I", true)
  | 31 => ("OneSelfModel", "worths", "[I", true)
  | 32 => ("OneSelfModel", "bests", "[I", true)
  | 33 => ("OneSelfModel", "mates", "[I", true)
  | 34 => ("OneSelfModel", "laidMany", "I", false)
  | 35 => ("OneSelfModel", "bundleOf", "[I", true)
  | 36 => ("OneSelfModel", "hang", "[I", true)
  | 37 => ("OneSelfModel", "checks", "I", false)
  | 38 => ("OneSelfModel", "checkA", "[I", true)
  | 39 => ("OneSelfModel", "checkB", "[I", true)
  | 40 => ("OneSelfModel", "checkOne", "[Z", true)
  | 41 => ("OneSelfModel", "falseRow", "[J", true)
  | 42 => ("OneSelfModel", "trueRow", "[J", true)
  | 43 => ("OneSelfModel", "wayRow", "[J", true)
  | 44 => ("OneSelfModel", "alikes", "[I", true)
  | 45 => ("OneSelfModel", "isTrue", "[Z", true)
  | 46 => ("OneSelfModel", "isThere", "[Z", true)
  | 47 => ("OneSelfModel", "types", "[I", true)
  | 48 => ("OneSelfModel", "sizes", "[I", true)
  | 49 => ("OneSelfModel", "items", "[I", true)
  | 50 => ("OneSelfModel", "moved", "[I", true)
  | _ => ("OneSelfModel", "finding", "I", false)
def ft_M : Nat → FieldType := fun k => match k with
  | 0 => .int
  | 1 => .int
  | 2 => .array .int
  | 3 => .array .int
  | 4 => .array .int
  | 5 => .array .int
  | 6 => .array .int
  | 7 => .array .int
  | 8 => .array .int
  | 9 => .array .int
  | 10 => .int
  | 11 => .array .int
  | 12 => .int
  | 13 => .array .int
  | 14 => .array .int
  | 15 => .boolean
  | 16 => .int
  | 17 => .array .int
  | 18 => .array .int
  | 19 => .array .int
  | 20 => .array .int
  | 21 => .array .int
  | 22 => .long
  | 23 => .long
  | 24 => .int
  | 25 => .array .boolean
  | 26 => .int
  | 27 => .int
  | 28 => .int
  | 29 => .array .int
  | 30 => .array .int
  | 31 => .array .int
  | 32 => .array .int
  | 33 => .array .int
  | 34 => .int
  | 35 => .array .int
  | 36 => .array .int
  | 37 => .int
  | 38 => .array .int
  | 39 => .array .int
  | 40 => .array .boolean
  | 41 => .array .long
  | 42 => .array .long
  | 43 => .array .long
  | 44 => .array .int
  | 45 => .array .boolean
  | 46 => .array .boolean
  | 47 => .array .int
  | 48 => .array .int
  | 49 => .array .int
  | 50 => .array .int
  | _ => .int
theorem fn_M : ∀ a, a < 52 → ∀ b, b < 52 → a ≠ b → (T_M a).2.1 ≠ (T_M b).2.1 := by decide +kernel
theorem ft_M_ok : ∀ k, k < 52 → parseFieldDescriptor (T_M k).2.2.1 = some (ft_M k) := by decide +kernel
theorem in_M : ∀ w' ∈ u_ws R_M T_M 52, w' ∈ tb_g := by decide +kernel
abbrev cls_ : List vw_C := [(R_O, T_O, 11), (R_Sheets, T_Sheets, 4), (R_Pairs, T_Pairs, 4), (R_Rows, T_Rows, 5), (R_Slips, T_Slips, 2), (R_Sounds, T_Sounds, 6), (R_Weights, T_Weights, 5), (R_Laying, T_Laying, 7), (R_Bundles, T_Bundles, 2), (R_Cut, T_Cut, 5), (R_Checks, T_Checks, 4), (R_Keys, T_Keys, 2), (R_M, T_M, 52)]
/-- where the cells lie, the slots, the classes of rows of ints, longs, booleans -/
abbrev GG : Type := (Nat → Nat) × va_G × ClassId × ClassId × ClassId
def xC (G : GG) : Nat → (Int → Int) → va_E := fun k f => match k with
  | 0 => .inr (0, [.ref (G.1 1), .ref (G.1 2), .ref (G.1 3), .ref (G.1 4), .ref (G.1 5), .ref (G.1 6), .ref (G.1 7), .ref (G.1 8), .ref (G.1 9), .ref (G.1 10), .ref (G.1 11)])
  | 1 => .inr (1, [.ref (G.1 12), .ref (G.1 13), .ref (G.1 14), vI (f 3)])
  | 2 => .inr (2, [.ref (G.1 3), .ref (G.1 4), .ref (G.1 5), .ref (G.1 6)])
  | 3 => .inr (3, [.ref (G.1 15), .ref (G.1 16), vI (f 2), vI (f 3), vI (f 4)])
  | 4 => .inr (4, [.ref (G.1 17), .ref (G.1 18)])
  | 5 => .inr (5, [.ref (G.1 19), .ref (G.1 20), .ref (G.1 21), .ref (G.1 22), vI (f 4), vI (f 5)])
  | 6 => .inr (6, [.ref (G.1 23), .ref (G.1 24), .ref (G.1 25), .ref (G.1 26), vI (f 4)])
  | 7 => .inr (7, [.ref (G.1 27), .ref (G.1 28), .ref (G.1 29), .ref (G.1 30), vI (f 4), vI (f 5), vJ (f 6)])
  | 8 => .inr (8, [.ref (G.1 31), vI (f 1)])
  | 9 => .inr (9, [.ref (G.1 32), .ref (G.1 33), .ref (G.1 34), .ref (G.1 35), vI (f 4)])
  | 10 => .inr (10, [.ref (G.1 36), .ref (G.1 37), .ref (G.1 38), vI (f 3)])
  | 11 => .inr (11, [.ref (G.1 39), .ref (G.1 40)])
  | 12 => .inl (G.2.2.1, 4, .inl (fun j : Nat => Int32.ofInt (f j)))
  | 13 => .inl (G.2.2.1, 4, .inl (fun j : Nat => Int32.ofInt (f j)))
  | 14 => .inl (G.2.2.1, 160, .inl (fun j : Nat => Int32.ofInt (f j)))
  | 15 => .inl (G.2.2.1, 252, .inl (fun j : Nat => Int32.ofInt (f j)))
  | 16 => .inl (G.2.2.1, 360, .inl (fun j : Nat => Int32.ofInt (f j)))
  | 17 => .inl (G.2.2.1, 1296, .inl (fun j : Nat => Int32.ofInt (f j)))
  | 18 => .inl (G.2.2.1, 121, .inl (fun j : Nat => Int32.ofInt (f j)))
  | 19 => .inl (G.2.2.1, 80, .inl (fun j : Nat => Int32.ofInt (f j)))
  | 20 => .inl (G.2.2.1, 26, .inl (fun j : Nat => Int32.ofInt (f j)))
  | 21 => .inl (G.2.2.1, 360, .inl (fun j : Nat => Int32.ofInt (f j)))
  | 22 => .inl (G.2.2.1, 36, .inl (fun j : Nat => Int32.ofInt (f j)))
  | 23 => .inl (G.2.2.1, 64, .inl (fun j : Nat => Int32.ofInt (f j)))
  | 24 => .inl (G.2.2.1, 16, .inl (fun j : Nat => Int32.ofInt (f j)))
  | 25 => .inl (G.2.2.1, 16, .inl (fun j : Nat => Int32.ofInt (f j)))
  | 26 => .inl (G.2.2.1, 16, .inl (fun j : Nat => Int32.ofInt (f j)))
  | 27 => .inl (G.2.2.1, 10, .inl (fun j : Nat => Int32.ofInt (f j)))
  | 28 => .inl (G.2.2.1, 10, .inl (fun j : Nat => Int32.ofInt (f j)))
  | 29 => .inl (G.2.2.2.1, 10, .inr (.inl (fun j : Nat => Int64.ofInt (f j))))
  | 30 => .inl (G.2.2.2.1, 1024, .inr (.inl (fun j : Nat => Int64.ofInt (f j))))
  | 31 => .inl (G.2.2.1, 36, .inl (fun j : Nat => Int32.ofInt (f j)))
  | 32 => .inl (G.2.2.1, 12, .inl (fun j : Nat => Int32.ofInt (f j)))
  | 33 => .inl (G.2.2.1, 144, .inl (fun j : Nat => Int32.ofInt (f j)))
  | 34 => .inl (G.2.2.1, 12, .inl (fun j : Nat => Int32.ofInt (f j)))
  | 35 => .inl (G.2.2.1, 12, .inl (fun j : Nat => Int32.ofInt (f j)))
  | 36 => .inl (G.2.2.1, 40, .inl (fun j : Nat => Int32.ofInt (f j)))
  | 37 => .inl (G.2.2.1, 40, .inl (fun j : Nat => Int32.ofInt (f j)))
  | 38 => .inl (G.2.2.2.2, 40, .inl (fun j : Nat => Int32.ofInt (f j)))
  | 39 => .inl (G.2.2.1, 64, .inl (fun j : Nat => Int32.ofInt (f j)))
  | _ => .inl (G.2.2.2.2, 64, .inl (fun j : Nat => Int32.ofInt (f j)))
def xW (G : GG) : WoT := (41, G.1, xC G, G.2.1, cls_, [(G.2.2.1, .int), (G.2.2.2.1, .long), (G.2.2.2.2, .boolean)])
def mC (G : GG) : Nat → (Int → Int) → va_E := fun k f => match k with
  | 0 => .inr (12, [vI (f 0), vI (f 1), .ref (G.1 1), .ref (G.1 2), .ref (G.1 3), .ref (G.1 4), .ref (G.1 5), .ref (G.1 6), .ref (G.1 7), .ref (G.1 8), vI (f 10), .ref (G.1 9), vI (f 12), .ref (G.1 10), .ref (G.1 11), vI (f 15), vI (f 16), .ref (G.1 12), .ref (G.1 13), .ref (G.1 14), .ref (G.1 15), .ref (G.1 16), vJ (f 22), vJ (f 23), vI (f 24), .ref (G.1 17), vI (f 26), vI (f 27), vI (f 28), .ref (G.1 18), .ref (G.1 19), .ref (G.1 20), .ref (G.1 21), .ref (G.1 22), vI (f 34), .ref (G.1 23), .ref (G.1 24), vI (f 37), .ref (G.1 25), .ref (G.1 26), .ref (G.1 27), .ref (G.1 28), .ref (G.1 29), .ref (G.1 30), .ref (G.1 31), .ref (G.1 32), .ref (G.1 33), .ref (G.1 34), .ref (G.1 35), .ref (G.1 36), .ref (G.1 37), vI (f 51)])
  | 1 => .inl (G.2.2.1, 36, .inl (fun j : Nat => Int32.ofInt (f j)))
  | 2 => .inl (G.2.2.1, 360, .inl (fun j : Nat => Int32.ofInt (f j)))
  | 3 => .inl (G.2.2.1, 36, .inl (fun j : Nat => Int32.ofInt (f j)))
  | 4 => .inl (G.2.2.1, 36, .inl (fun j : Nat => Int32.ofInt (f j)))
  | 5 => .inl (G.2.2.1, 36, .inl (fun j : Nat => Int32.ofInt (f j)))
  | 6 => .inl (G.2.2.1, 36, .inl (fun j : Nat => Int32.ofInt (f j)))
  | 7 => .inl (G.2.2.1, 36, .inl (fun j : Nat => Int32.ofInt (f j)))
  | 8 => .inl (G.2.2.1, 36, .inl (fun j : Nat => Int32.ofInt (f j)))
  | 9 => .inl (G.2.2.1, 64, .inl (fun j : Nat => Int32.ofInt (f j)))
  | 10 => .inl (G.2.2.1, 80, .inl (fun j : Nat => Int32.ofInt (f j)))
  | 11 => .inl (G.2.2.1, 26, .inl (fun j : Nat => Int32.ofInt (f j)))
  | 12 => .inl (G.2.2.1, 20, .inl (fun j : Nat => Int32.ofInt (f j)))
  | 13 => .inl (G.2.2.1, 2, .inl (fun j : Nat => Int32.ofInt (f j)))
  | 14 => .inl (G.2.2.1, 121, .inl (fun j : Nat => Int32.ofInt (f j)))
  | 15 => .inl (G.2.2.1, 16, .inl (fun j : Nat => Int32.ofInt (f j)))
  | 16 => .inl (G.2.2.1, 32, .inl (fun j : Nat => Int32.ofInt (f j)))
  | 17 => .inl (G.2.2.2.2, 1296, .inl (fun j : Nat => Int32.ofInt (f j)))
  | 18 => .inl (G.2.2.1, 10, .inl (fun j : Nat => Int32.ofInt (f j)))
  | 19 => .inl (G.2.2.1, 10, .inl (fun j : Nat => Int32.ofInt (f j)))
  | 20 => .inl (G.2.2.1, 100, .inl (fun j : Nat => Int32.ofInt (f j)))
  | 21 => .inl (G.2.2.1, 11264, .inl (fun j : Nat => Int32.ofInt (f j)))
  | 22 => .inl (G.2.2.1, 10, .inl (fun j : Nat => Int32.ofInt (f j)))
  | 23 => .inl (G.2.2.1, 36, .inl (fun j : Nat => Int32.ofInt (f j)))
  | 24 => .inl (G.2.2.1, 12, .inl (fun j : Nat => Int32.ofInt (f j)))
  | 25 => .inl (G.2.2.1, 40, .inl (fun j : Nat => Int32.ofInt (f j)))
  | 26 => .inl (G.2.2.1, 40, .inl (fun j : Nat => Int32.ofInt (f j)))
  | 27 => .inl (G.2.2.2.2, 40, .inl (fun j : Nat => Int32.ofInt (f j)))
  | 28 => .inl (G.2.2.2.1, 62, .inr (.inl (fun j : Nat => Int64.ofInt (f j))))
  | 29 => .inl (G.2.2.2.1, 62, .inr (.inl (fun j : Nat => Int64.ofInt (f j))))
  | 30 => .inl (G.2.2.2.1, 62, .inr (.inl (fun j : Nat => Int64.ofInt (f j))))
  | 31 => .inl (G.2.2.1, 64, .inl (fun j : Nat => Int32.ofInt (f j)))
  | 32 => .inl (G.2.2.2.2, 64, .inl (fun j : Nat => Int32.ofInt (f j)))
  | 33 => .inl (G.2.2.2.2, 4, .inl (fun j : Nat => Int32.ofInt (f j)))
  | 34 => .inl (G.2.2.1, 4, .inl (fun j : Nat => Int32.ofInt (f j)))
  | 35 => .inl (G.2.2.1, 4, .inl (fun j : Nat => Int32.ofInt (f j)))
  | 36 => .inl (G.2.2.1, 160, .inl (fun j : Nat => Int32.ofInt (f j)))
  | _ => .inl (G.2.2.1, 40, .inl (fun j : Nat => Int32.ofInt (f j)))
def mW (G : GG) : WoT := (38, G.1, mC G, G.2.1, cls_, [(G.2.2.1, .int), (G.2.2.2.1, .long), (G.2.2.2.2, .boolean)])
-- how the printed functions are made
def gd (c : Prop) [Decidable c] (k : MM) : MM := if c then k else none
def bd (x : MM) (k : Int → St → MM) : MM := match x with | none => none | some p => k p.1 p.2
def itr {α : Type} (b : α → α) (z : α) : Nat → α | 0 => z | n + 1 => b (itr b z n)
theorem gd_s {c : Prop} [Decidable c] {k : MM} {o : Int × St} (h : gd c k = some o) : c ∧ k = some o := by
  unfold gd at h
  by_cases hc : c
  · rw [if_pos hc] at h; exact ⟨hc, h⟩
  · rw [if_neg hc] at h; cases h
theorem bd_s {x : MM} {k : Int → St → MM} {o : Int × St} (h : bd x k = some o) : ∃ r s, x = some (r, s) ∧ k r s = some o := by
  cases x with
  | none => cases h
  | some p => exact ⟨p.1, p.2, rfl, h⟩
theorem ite_t {c : Prop} [Decidable c] {a b : MM} {o : Option (Int × St)} (h : c) (hf : (if c then a else b) = o) : a = o := by rw [if_pos h] at hf; exact hf
theorem ite_f {c : Prop} [Decidable c] {a b : MM} {o : Option (Int × St)} (h : ¬ c) (hf : (if c then a else b) = o) : b = o := by rw [if_neg h] at hf; exact hf
theorem itr_ind {α : Type} (b : α → α) (z : α) (P : α → Prop) (hz : P z) (hs : ∀ k, P k → P (b k)) : ∀ n, P (itr b z n)
  | 0 => hz
  | n + 1 => hs _ (itr_ind b z P hz hs n)
def cpy (σ : St) (ks kd : Nat) (sp dp n : Int) : St := fun k' => if k' = kd then (fun j => if dp ≤ j ∧ j < dp + n then σ ks (sp + (j - dp)) else σ kd j) else σ k'
section AC
variable {X : CxT} {l : Launch} {w : WoT} {nL : Nat} {cc : ByteArray} {own : String} {Ts : List Cond} {ret : Option FieldType} {rm : Room} {Q : State → Prop} {pc q : Nat} {lv : List (Nat × Value)} {st : List Value} {σ : St}
theorem r_acopy (C : Cx X l w nL cc own Ts ret rm) (k0 k1 : Nat) (hk0 : k0 < w.n) (hk1 : k1 < w.n) {c0 c1 : ClassId} {n0 n1 : Nat} (h0 : ∀ f, w.c k0 f = .inl (c0, n0, .inl (fun j : Nat => Int32.ofInt (f j)))) (h1 : ∀ f, w.c k1 f = .inl (c1, n1, .inl (fun j : Nat => Int32.ofInt (f j)))) (t0 t1 : Nat) (ht0 : w.tys[t0]? = some (c0, .int)) (ht1 : w.tys[t1]? = some (c1, .int)) {sp dp n : Int} (g : 0 ≤ sp ∧ 0 ≤ dp ∧ 0 ≤ n ∧ sp + n ≤ n0 ∧ dp + n ≤ n1) (hn0 : n0 < 2147483648) (hn1 : n1 < 2147483648)
    {ix : Nat} (hlk : Cond.methodLink own ix arraycopyName ∈ tb_g) (hN : Cond.native arraycopyName ∈ tb_g ∧ Cond.static arraycopyName ∈ tb_g ∧ Cond.initialized "java/lang/System" ∈ tb_g) (hfr : 1 ≤ rm.frames) (hlo : 8 + 18 ≤ rm.locals) (hW : (st.map fun v => v.category).sum ≤ 8) (hd : decode cc pc = .ok (.invokestatic ix, 3)) (hq : pc + 3 = q)
    (kk : Rj X w nL Q q lv st (cpy σ k0 k1 sp dp n)) : Rj X w nL Q pc lv (vI n :: vI dp :: .ref (w.h k1) :: vI sp :: .ref (w.h k0) :: st) σ := by
  subst hq; intro H locs ls hP hS hl
  obtain ⟨g1, g2, g3, g4, g5⟩ := g
  have ps : ∀ x : Int, 0 ≤ x → x < 2147483648 → ¬ Int32.ofInt x < 0 ∧ (Int32.ofInt x).toNatClampNeg = x.toNat := by
    intro x hx hx2
    obtain ⟨j, rfl⟩ := Int.eq_ofNat_of_zero_le hx
    have e : Int32.ofInt (j : Int) = nI j := Int32.ofInt_eq_ofNat
    rw [e]
    exact ⟨nI_pos (by omega), by rw [nI_clamp (by omega)]; simp⟩
  obtain ⟨a1, b1⟩ := ps sp g1 (by omega)
  obtain ⟨a2, b2⟩ := ps dp g2 (by omega)
  obtain ⟨a3, b3⟩ := ps n g3 (by omega)
  refine va_copyi C.x C.b (by rw [C.ml]; exact hl.1.symm) C.ow (C.t hlk) (C.t hN.1) (C.t hN.2.1) (C.t hN.2.2) C.K hP (C.D σ) hS k0 k1 t0 t1 (wd_o σ hk0 (h0 _)) (wd_o σ hk1 (h1 _)) ht0 ht1 rfl a1 a2 a3 (by rw [b1, b3]; omega) (by rw [b2, b3]; omega) (fun _ _ => rfl) (by rw [C.R]; exact hfr) ?_ hd (fun H1 locs1 hP1 _ hS1 => ?_)
  · rw [C.R]
    have e : nativeFrameWords "java/lang/System" "arraycopy" 5 = 7 := by decide +kernel
    rw [e]; omega
  · rw [b1, b2, b3, wd_set w σ (cpy σ k0 k1 sp dp n) k1 _ ?_ (fun j h => by unfold cpy; rw [if_neg h])] at hP1
    · exact kk H1 locs1 ls hP1 hS1 hl
    · rw [h1]
      have e : (fun j : Nat => Int32.ofInt (cpy σ k0 k1 sp dp n k1 j)) = va_cpy (fun j : Nat => Int32.ofInt (σ k0 j)) (fun j : Nat => Int32.ofInt (σ k1 j)) sp.toNat dp.toNat n.toNat := by
        funext j
        unfold cpy va_cpy
        rw [if_pos rfl]
        show Int32.ofInt (if dp ≤ (j : Int) ∧ (j : Int) < dp + n then σ k0 (sp + ((j : Int) - dp)) else σ k1 j) = _
        by_cases h : dp ≤ (j : Int) ∧ (j : Int) < dp + n
        · have h' : dp.toNat ≤ j ∧ j < dp.toNat + n.toNat := by omega
          have e2 : ((sp.toNat + (j - dp.toNat) : Nat) : Int) = sp + ((j : Int) - dp) := by omega
          rw [if_pos h, if_pos h']
          show Int32.ofInt (σ k0 (sp + ((j : Int) - dp))) = Int32.ofInt (σ k0 ((sp.toNat + (j - dp.toNat) : Nat) : Int))
          rw [e2]
        · have h' : ¬ (dp.toNat ≤ j ∧ j < dp.toNat + n.toNat) := by omega
          rw [if_neg h, if_neg h']
      rw [e]
end AC
