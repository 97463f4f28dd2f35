def T_0 : u_T := fun k => match k with
  | 0 => ("BassRealiser$Chord", "letter", "I", false)
  | 1 => ("BassRealiser$Chord", "bass", "I", false)
  | 2 => ("BassRealiser$Chord", "told", "I", false)
  | 3 => ("BassRealiser$Chord", "work", "I", false)
  | 4 => ("BassRealiser$Chord", "signs", "[I", true)
  | 5 => ("BassRealiser$Chord", "fixed", "[I", true)
  | 6 => ("BassRealiser$Chord", "handmade", "I", false)
  | 7 => ("BassRealiser$Chord", "toneClasses", "I", false)
  | 8 => ("BassRealiser$Chord", "classes", "I", false)
  | 9 => ("BassRealiser$Chord", "suspended", "I", false)
  | _ => ("BassRealiser$Chord", "falling", "I", false)
def tf_0 : Nat → FieldType := fun k => match k with
  | 0 => .int
  | 1 => .int
  | 2 => .int
  | 3 => .int
  | 4 => .array .int
  | 5 => .array .int
  | 6 => .int
  | 7 => .int
  | 8 => .int
  | 9 => .int
  | _ => .int
theorem tf_0_ok : ∀ k, k < 11 → parseFieldDescriptor (T_0 k).2.2.1 = some (tf_0 k) := by decide +kernel
theorem nm_0 : ∀ a, a < 11 → ∀ b, b < 11 → a ≠ b → (T_0 a).2.1 ≠ (T_0 b).2.1 := by decide +kernel
def T_1 : u_T := fun k => match k with
  | 0 => ("BassRealiser$Column", "voicings", "[I", true)
  | 1 => ("BassRealiser$Column", "reached", "[Z", true)
  | 2 => ("BassRealiser$Column", "ways", "[I", true)
  | 3 => ("BassRealiser$Column", "rest", "[I", true)
  | 4 => ("BassRealiser$Column", "size", "I", false)
  | _ => ("BassRealiser$Column", "fresh", "Z", false)
def tf_1 : Nat → FieldType := fun k => match k with
  | 0 => .array .int
  | 1 => .array .boolean
  | 2 => .array .int
  | 3 => .array .int
  | 4 => .int
  | _ => .boolean
theorem tf_1_ok : ∀ k, k < 6 → parseFieldDescriptor (T_1 k).2.2.1 = some (tf_1 k) := by decide +kernel
theorem nm_1 : ∀ a, a < 6 → ∀ b, b < 6 → a ≠ b → (T_1 a).2.1 ≠ (T_1 b).2.1 := by decide +kernel
def T_2 : u_T := fun k => match k with
  | 0 => ("BassRealiser$Move", "from", "[I", true)
  | 1 => ("BassRealiser$Move", "to", "[I", true)
  | 2 => ("BassRealiser$Move", "steps", "[I", true)
  | 3 => ("BassRealiser$Move", "wasSuspended", "I", false)
  | 4 => ("BassRealiser$Move", "wasFalling", "I", false)
  | _ => ("BassRealiser$Move", "isSuspended", "I", false)
def tf_2 : Nat → FieldType := fun k => match k with
  | 0 => .array .int
  | 1 => .array .int
  | 2 => .array .int
  | 3 => .int
  | 4 => .int
  | _ => .int
theorem tf_2_ok : ∀ k, k < 6 → parseFieldDescriptor (T_2 k).2.2.1 = some (tf_2 k) := by decide +kernel
theorem nm_2 : ∀ a, a < 6 → ∀ b, b < 6 → a ≠ b → (T_2 a).2.1 ≠ (T_2 b).2.1 := by decide +kernel
def T_3 : u_T := fun k => match k with
  | 0 => ("BassRealiser$Rules", "low", "[I", true)
  | 1 => ("BassRealiser$Rules", "high", "[I", true)
  | 2 => ("BassRealiser$Rules", "homes", "[I", true)
  | 3 => ("BassRealiser$Rules", "leap", "I", false)
  | _ => ("BassRealiser$Rules", "fifths", "I", false)
def tf_3 : Nat → FieldType := fun k => match k with
  | 0 => .array .int
  | 1 => .array .int
  | 2 => .array .int
  | 3 => .int
  | _ => .int
theorem tf_3_ok : ∀ k, k < 5 → parseFieldDescriptor (T_3 k).2.2.1 = some (tf_3 k) := by decide +kernel
theorem nm_3 : ∀ a, a < 5 → ∀ b, b < 5 → a ≠ b → (T_3 a).2.1 ≠ (T_3 b).2.1 := by decide +kernel
def T_4 : u_T := fun k => match k with
  | 0 => ("BassRealiser$Search", "chords", "[LBassRealiser$Chord;", true)
  | 1 => ("BassRealiser$Search", "rules", "LBassRealiser$Rules;", true)
  | 2 => ("BassRealiser$Search", "columns", "[LBassRealiser$Column;", true)
  | 3 => ("BassRealiser$Search", "move", "LBassRealiser$Move;", true)
  | 4 => ("BassRealiser$Search", "best", "[I", true)
  | 5 => ("BassRealiser$Search", "failed", "I", false)
  | 6 => ("BassRealiser$Search", "cost", "I", false)
  | 7 => ("BassRealiser$Search", "ways", "I", false)
  | _ => ("BassRealiser$Search", "settled", "Z", false)
def tf_4 : Nat → FieldType := fun k => match k with
  | 0 => .array (.object "BassRealiser$Chord")
  | 1 => .object "BassRealiser$Rules"
  | 2 => .array (.object "BassRealiser$Column")
  | 3 => .object "BassRealiser$Move"
  | 4 => .array .int
  | 5 => .int
  | 6 => .int
  | 7 => .int
  | _ => .boolean
theorem tf_4_ok : ∀ k, k < 9 → parseFieldDescriptor (T_4 k).2.2.1 = some (tf_4 k) := by decide +kernel
theorem nm_4 : ∀ a, a < 9 → ∀ b, b < 9 → a ≠ b → (T_4 a).2.1 ≠ (T_4 b).2.1 := by decide +kernel
def T_5 : u_T := fun k => match k with
  | 0 => ("BassRealiser", "search", "LBassRealiser$Search;", true)
  | 1 => ("BassRealiser", "chords", "[LBassRealiser$Chord;", true)
  | 2 => ("BassRealiser", "rules", "LBassRealiser$Rules;", true)
  | 3 => ("BassRealiser", "move", "LBassRealiser$Move;", true)
  | _ => ("BassRealiser", "size", "I", false)
def tf_5 : Nat → FieldType := fun k => match k with
  | 0 => .object "BassRealiser$Search"
  | 1 => .array (.object "BassRealiser$Chord")
  | 2 => .object "BassRealiser$Rules"
  | 3 => .object "BassRealiser$Move"
  | _ => .int
theorem tf_5_ok : ∀ k, k < 5 → parseFieldDescriptor (T_5 k).2.2.1 = some (tf_5 k) := by decide +kernel
theorem nm_5 : ∀ a, a < 5 → ∀ b, b < 5 → a ≠ b → (T_5 a).2.1 ≠ (T_5 b).2.1 := by decide +kernel
def T_6 : u_T := fun k => match k with
  | 0 => ("BassRealiserModel", "thrown", "I", false)
  | 1 => ("BassRealiserModel", "fifths", "I", false)
  | 2 => ("BassRealiserModel", "chords", "I", false)
  | 3 => ("BassRealiserModel", "letter", "[I", true)
  | 4 => ("BassRealiserModel", "octave", "[I", true)
  | 5 => ("BassRealiserModel", "alter", "[I", true)
  | 6 => ("BassRealiserModel", "told", "[I", true)
  | 7 => ("BassRealiserModel", "low", "[I", true)
  | 8 => ("BassRealiserModel", "high", "[I", true)
  | 9 => ("BassRealiserModel", "home", "[I", true)
  | 10 => ("BassRealiserModel", "leap", "I", false)
  | 11 => ("BassRealiserModel", "given", "[I", true)
  | 12 => ("BassRealiserModel", "hand", "[I", true)
  | 13 => ("BassRealiserModel", "isSung", "[Z", true)
  | 14 => ("BassRealiserModel", "now", "[I", true)
  | 15 => ("BassRealiserModel", "before", "[I", true)
  | 16 => ("BassRealiserModel", "tones", "[I", true)
  | 17 => ("BassRealiserModel", "suspended", "[I", true)
  | 18 => ("BassRealiserModel", "falling", "[I", true)
  | 19 => ("BassRealiserModel", "isLaid", "Z", false)
  | 20 => ("BassRealiserModel", "pitch", "[I", true)
  | 21 => ("BassRealiserModel", "size", "[I", true)
  | 22 => ("BassRealiserModel", "rest", "[I", true)
  | 23 => ("BassRealiserModel", "rows", "[J", true)
  | 24 => ("BassRealiserModel", "failed", "I", false)
  | _ => ("BassRealiserModel", "chosen", "[I", true)
def tf_6 : Nat → FieldType := fun k => match k with
  | 0 => .int
  | 1 => .int
  | 2 => .int
  | 3 => .array .int
  | 4 => .array .int
  | 5 => .array .int
  | 6 => .array .int
  | 7 => .array .int
  | 8 => .array .int
  | 9 => .array .int
  | 10 => .int
  | 11 => .array .int
  | 12 => .array .int
  | 13 => .array .boolean
  | 14 => .array .int
  | 15 => .array .int
  | 16 => .array .int
  | 17 => .array .int
  | 18 => .array .int
  | 19 => .boolean
  | 20 => .array .int
  | 21 => .array .int
  | 22 => .array .int
  | 23 => .array .long
  | 24 => .int
  | _ => .array .int
theorem tf_6_ok : ∀ k, k < 26 → parseFieldDescriptor (T_6 k).2.2.1 = some (tf_6 k) := by decide +kernel
theorem nm_6 : ∀ a, a < 26 → ∀ b, b < 26 → a ≠ b → (T_6 a).2.1 ≠ (T_6 b).2.1 := by decide +kernel
abbrev vwCl : List vw_C := [("BassRealiser$Chord", T_0, 11), ("BassRealiser$Column", T_1, 6), ("BassRealiser$Move", T_2, 6), ("BassRealiser$Rules", T_3, 5), ("BassRealiser$Search", T_4, 9), ("BassRealiser", T_5, 5), ("BassRealiserModel", T_6, 26)]
