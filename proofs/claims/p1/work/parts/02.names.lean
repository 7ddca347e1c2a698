/-- the words of lw_tbl, by places: 1000 times the list's number, and the place there -/
def pTab : Nat → List Cond
  | 0 => k2_sels lw_privs
  | 1 => tables_1_1
  | 2 => tables_1_2
  | 3 => tables_1_3
  | 4 => tables_1_4
  | 5 => tables_1_5
  | 6 => tables_1_6
  | 7 => tables_1_7
  | 8 => tables_1_8
  | 9 => tables_1_9
  | 10 => tables_1_10
  | _ => []
def pW (n : Nat) : Option Cond := (pTab (n / 1000))[n % 1000]?
theorem pW_in {n : Nat} {w : Cond} (h : pW n = some w) : w ∈ lw_tbl := by
  have h1 : w ∈ pTab (n / 1000) := List.mem_of_getElem? h
  generalize n / 1000 = k at h1
  unfold lw_tbl tables_1
  simp only [List.mem_append]
  match k, h1 with
  | 0, h1 => exact Or.inl h1
  | 1, h1 => exact Or.inr (Or.inl h1)
  | 2, h1 => exact Or.inr (Or.inr (Or.inl h1))
  | 3, h1 => exact Or.inr (Or.inr (Or.inr (Or.inl h1)))
  | 4, h1 => exact Or.inr (Or.inr (Or.inr (Or.inr (Or.inl h1))))
  | 5, h1 => exact Or.inr (Or.inr (Or.inr (Or.inr (Or.inr (Or.inl h1)))))
  | 6, h1 => exact Or.inr (Or.inr (Or.inr (Or.inr (Or.inr (Or.inr (Or.inl h1))))))
  | 7, h1 => exact Or.inr (Or.inr (Or.inr (Or.inr (Or.inr (Or.inr (Or.inr (Or.inl h1)))))))
  | 8, h1 => exact Or.inr (Or.inr (Or.inr (Or.inr (Or.inr (Or.inr (Or.inr (Or.inr (Or.inl h1))))))))
  | 9, h1 => exact Or.inr (Or.inr (Or.inr (Or.inr (Or.inr (Or.inr (Or.inr (Or.inr (Or.inr (Or.inl h1)))))))))
  | 10, h1 => exact Or.inr (Or.inr (Or.inr (Or.inr (Or.inr (Or.inr (Or.inr (Or.inr (Or.inr (Or.inr (h1))))))))))
  | k + 11, h1 => exact absurd h1 List.not_mem_nil
/-- the words that stay over a call, by what they are -/
def pT : List Cond := lw_tbl.filter goodWord
theorem pT_in {n : Nat} {w : Cond} (h : pW n = some w) (hg : goodWord w = true) : w ∈ pT := List.mem_filter.mpr ⟨pW_in h, hg⟩
theorem pGood : ∀ w ∈ pT, goodWord w = true := fun w h => (List.mem_filter.mp h).2
theorem pLay_good (C : String) (T : u_T) (k : Nat) : goodWord (u_lay C T k) = true := by
  unfold u_lay
  split <;> rfl
/-- words that stay too -/
def pStay : Cond → Bool
  | .fieldLinkNest _ _ _ _ _ _ => true
  | .arrayOver (.array _) => true
  | _ => false
/-- a word on code, but for the bytes -/
def pCw : Cond → Option (MethodName × Nat × Option FieldType)
  | .code y _ n r => some (y, n, r)
  | _ => none
/-- the bytes of the word on code at this place -/
def pCd (n : Nat) : ByteArray := match pW n with
  | some (.code _ cc _ _) => cc
  | _ => ⟨#[]⟩
theorem pCd_in {n : Nat} {y : MethodName} {k : Nat} {r : Option FieldType} (h : (pW n).bind pCw = some (y, k, r)) : Cond.code y (pCd n) k r ∈ pT := by
  obtain ⟨w, h1, h2⟩ := Option.bind_eq_some_iff.mp h
  unfold pCw at h2
  split at h2
  · cases h2
    have h3 := pT_in h1 rfl
    unfold pCd
    rw [h1]
    exact h3
  · cases h2
-- class 0: ClassHouse$Checker
def TX0 : u_T := fun k => match k with
  | 0 => ("ClassHouse$Checker", "classes", "LClassHouse$Classes;", true)
  | _ => ("ClassHouse$Checker", "members", "LClassHouse$Members;", true)
def tyX0 : Nat → FieldType := fun k => match k with
  | 0 => .object "ClassHouse$Classes"
  | _ => .object "ClassHouse$Members"
theorem nmX0 : ∀ a, a < 2 → ∀ b, b < 2 → a ≠ b → (TX0 a).2.1 ≠ (TX0 b).2.1 := by decide +kernel
theorem tyX0_ok : ∀ k, k < 2 → parseFieldDescriptor (TX0 k).2.2.1 = some (tyX0 k) := by decide +kernel
-- class 1: ClassHouse$Classes
def TX1 : u_T := fun k => match k with
  | 0 => ("ClassHouse$Classes", "name", "[I", true)
  | 1 => ("ClassHouse$Classes", "place", "[I", true)
  | 2 => ("ClassHouse$Classes", "parentName", "[I", true)
  | 3 => ("ClassHouse$Classes", "parent", "[I", true)
  | 4 => ("ClassHouse$Classes", "from", "[I", true)
  | 5 => ("ClassHouse$Classes", "to", "[I", true)
  | 6 => ("ClassHouse$Classes", "fields", "[I", true)
  | _ => ("ClassHouse$Classes", "size", "I", false)
def tyX1 : Nat → FieldType := fun k => match k with
  | 0 => .array .int
  | 1 => .array .int
  | 2 => .array .int
  | 3 => .array .int
  | 4 => .array .int
  | 5 => .array .int
  | 6 => .array .int
  | _ => .int
theorem nmX1 : ∀ a, a < 8 → ∀ b, b < 8 → a ≠ b → (TX1 a).2.1 ≠ (TX1 b).2.1 := by decide +kernel
theorem tyX1_ok : ∀ k, k < 8 → parseFieldDescriptor (TX1 k).2.2.1 = some (tyX1 k) := by decide +kernel
-- class 2: ClassHouse$Code
def TX2 : u_T := fun k => match k with
  | 0 => ("ClassHouse$Code", "op", "[I", true)
  | 1 => ("ClassHouse$Code", "a", "[I", true)
  | 2 => ("ClassHouse$Code", "b", "[I", true)
  | 3 => ("ClassHouse$Code", "target", "[I", true)
  | 4 => ("ClassHouse$Code", "place", "[I", true)
  | 5 => ("ClassHouse$Code", "variables", "[I", true)
  | 6 => ("ClassHouse$Code", "tryAround", "[I", true)
  | 7 => ("ClassHouse$Code", "size", "I", false)
  | 8 => ("ClassHouse$Code", "statement", "I", false)
  | _ => ("ClassHouse$Code", "openTry", "I", false)
def tyX2 : Nat → FieldType := fun k => match k with
  | 0 => .array .int
  | 1 => .array .int
  | 2 => .array .int
  | 3 => .array .int
  | 4 => .array .int
  | 5 => .array .int
  | 6 => .array .int
  | 7 => .int
  | 8 => .int
  | _ => .int
theorem nmX2 : ∀ a, a < 10 → ∀ b, b < 10 → a ≠ b → (TX2 a).2.1 ≠ (TX2 b).2.1 := by decide +kernel
theorem tyX2_ok : ∀ k, k < 10 → parseFieldDescriptor (TX2 k).2.2.1 = some (tyX2 k) := by decide +kernel
-- class 3: ClassHouse$Heap
def TX3 : u_T := fun k => match k with
  | 0 => ("ClassHouse$Heap", "cells", "[J", false)
  | 1 => ("ClassHouse$Heap", "others", "[J", false)
  | 2 => ("ClassHouse$Heap", "used", "I", false)
  | _ => ("ClassHouse$Heap", "limit", "I", false)
def tyX3 : Nat → FieldType := fun k => match k with
  | 0 => .array .long
  | 1 => .array .long
  | 2 => .int
  | _ => .int
theorem nmX3 : ∀ a, a < 4 → ∀ b, b < 4 → a ≠ b → (TX3 a).2.1 ≠ (TX3 b).2.1 := by decide +kernel
theorem tyX3_ok : ∀ k, k < 4 → parseFieldDescriptor (TX3 k).2.2.1 = some (tyX3 k) := by decide +kernel
-- class 4: ClassHouse$Input
def TX4 : u_T := fun k => match k with
  | 0 => ("ClassHouse$Input", "ring", "[I", true)
  | 1 => ("ClassHouse$Input", "first", "I", false)
  | _ => ("ClassHouse$Input", "size", "I", false)
def tyX4 : Nat → FieldType := fun k => match k with
  | 0 => .array .int
  | 1 => .int
  | _ => .int
theorem nmX4 : ∀ a, a < 3 → ∀ b, b < 3 → a ≠ b → (TX4 a).2.1 ≠ (TX4 b).2.1 := by decide +kernel
theorem tyX4_ok : ∀ k, k < 3 → parseFieldDescriptor (TX4 k).2.2.1 = some (tyX4 k) := by decide +kernel
-- class 5: ClassHouse$Machine
def TX5 : u_T := fun k => match k with
  | 0 => ("ClassHouse$Machine", "classes", "LClassHouse$Classes;", true)
  | 1 => ("ClassHouse$Machine", "members", "LClassHouse$Members;", true)
  | 2 => ("ClassHouse$Machine", "code", "LClassHouse$Code;", true)
  | 3 => ("ClassHouse$Machine", "numbers", "LClassHouse$Input;", true)
  | 4 => ("ClassHouse$Machine", "cells", "LClassHouse$Heap;", true)
  | 5 => ("ClassHouse$Machine", "pile", "[J", false)
  | 6 => ("ClassHouse$Machine", "top", "I", false)
  | 7 => ("ClassHouse$Machine", "at", "[I", true)
  | 8 => ("ClassHouse$Machine", "base", "[I", true)
  | 9 => ("ClassHouse$Machine", "opened", "[I", true)
  | 10 => ("ClassHouse$Machine", "self", "[J", true)
  | 11 => ("ClassHouse$Machine", "depth", "I", false)
  | 12 => ("ClassHouse$Machine", "next", "I", false)
  | 13 => ("ClassHouse$Machine", "ended", "I", false)
  | 14 => ("ClassHouse$Machine", "answer", "I", false)
  | 15 => ("ClassHouse$Machine", "steps", "I", false)
  | 16 => ("ClassHouse$Machine", "made", "I", false)
  | 17 => ("ClassHouse$Machine", "thrown", "I", false)
  | 18 => ("ClassHouse$Machine", "prints", "[I", true)
  | _ => ("ClassHouse$Machine", "printed", "I", false)
def tyX5 : Nat → FieldType := fun k => match k with
  | 0 => .object "ClassHouse$Classes"
  | 1 => .object "ClassHouse$Members"
  | 2 => .object "ClassHouse$Code"
  | 3 => .object "ClassHouse$Input"
  | 4 => .object "ClassHouse$Heap"
  | 5 => .array .long
  | 6 => .int
  | 7 => .array .int
  | 8 => .array .int
  | 9 => .array .int
  | 10 => .array .long
  | 11 => .int
  | 12 => .int
  | 13 => .int
  | 14 => .int
  | 15 => .int
  | 16 => .int
  | 17 => .int
  | 18 => .array .int
  | _ => .int
theorem nmX5 : ∀ a, a < 20 → ∀ b, b < 20 → a ≠ b → (TX5 a).2.1 ≠ (TX5 b).2.1 := by decide +kernel
theorem tyX5_ok : ∀ k, k < 20 → parseFieldDescriptor (TX5 k).2.2.1 = some (tyX5 k) := by decide +kernel
-- class 6: ClassHouse$Members
def TX6 : u_T := fun k => match k with
  | 0 => ("ClassHouse$Members", "classes", "LClassHouse$Classes;", true)
  | 1 => ("ClassHouse$Members", "name", "[I", true)
  | 2 => ("ClassHouse$Members", "place", "[I", true)
  | 3 => ("ClassHouse$Members", "type", "[I", true)
  | 4 => ("ClassHouse$Members", "method", "[Z", true)
  | 5 => ("ClassHouse$Members", "offset", "[I", true)
  | 6 => ("ClassHouse$Members", "firstParameter", "[I", true)
  | 7 => ("ClassHouse$Members", "parameters", "[I", true)
  | 8 => ("ClassHouse$Members", "codeFrom", "[I", true)
  | 9 => ("ClassHouse$Members", "slots", "[I", true)
  | 10 => ("ClassHouse$Members", "depth", "[I", true)
  | 11 => ("ClassHouse$Members", "size", "I", false)
  | 12 => ("ClassHouse$Members", "parameterName", "[I", true)
  | 13 => ("ClassHouse$Members", "parameterType", "[I", true)
  | _ => ("ClassHouse$Members", "parametersUsed", "I", false)
def tyX6 : Nat → FieldType := fun k => match k with
  | 0 => .object "ClassHouse$Classes"
  | 1 => .array .int
  | 2 => .array .int
  | 3 => .array .int
  | 4 => .array .boolean
  | 5 => .array .int
  | 6 => .array .int
  | 7 => .array .int
  | 8 => .array .int
  | 9 => .array .int
  | 10 => .array .int
  | 11 => .int
  | 12 => .array .int
  | 13 => .array .int
  | _ => .int
theorem nmX6 : ∀ a, a < 15 → ∀ b, b < 15 → a ≠ b → (TX6 a).2.1 ≠ (TX6 b).2.1 := by decide +kernel
theorem tyX6_ok : ∀ k, k < 15 → parseFieldDescriptor (TX6 k).2.2.1 = some (tyX6 k) := by decide +kernel
-- class 7: ClassHouse$Reader
def TX7 : u_T := fun k => match k with
  | 0 => ("ClassHouse$Reader", "words", "LClassHouse$Words;", true)
  | 1 => ("ClassHouse$Reader", "classes", "LClassHouse$Classes;", true)
  | 2 => ("ClassHouse$Reader", "members", "LClassHouse$Members;", true)
  | 3 => ("ClassHouse$Reader", "code", "LClassHouse$Code;", true)
  | 4 => ("ClassHouse$Reader", "waitingOp", "[I", true)
  | 5 => ("ClassHouse$Reader", "waitingLevel", "[I", true)
  | 6 => ("ClassHouse$Reader", "waitingMark", "[I", true)
  | 7 => ("ClassHouse$Reader", "waiting", "I", false)
  | 8 => ("ClassHouse$Reader", "at", "I", false)
  | 9 => ("ClassHouse$Reader", "kind", "I", false)
  | 10 => ("ClassHouse$Reader", "nest", "I", false)
  | _ => ("ClassHouse$Reader", "wrong", "I", false)
def tyX7 : Nat → FieldType := fun k => match k with
  | 0 => .object "ClassHouse$Words"
  | 1 => .object "ClassHouse$Classes"
  | 2 => .object "ClassHouse$Members"
  | 3 => .object "ClassHouse$Code"
  | 4 => .array .int
  | 5 => .array .int
  | 6 => .array .int
  | 7 => .int
  | 8 => .int
  | 9 => .int
  | 10 => .int
  | _ => .int
theorem nmX7 : ∀ a, a < 12 → ∀ b, b < 12 → a ≠ b → (TX7 a).2.1 ≠ (TX7 b).2.1 := by decide +kernel
theorem tyX7_ok : ∀ k, k < 12 → parseFieldDescriptor (TX7 k).2.2.1 = some (tyX7 k) := by decide +kernel
-- class 8: ClassHouse$Scope
def TX8 : u_T := fun k => match k with
  | 0 => ("ClassHouse$Scope", "name", "[I", true)
  | 1 => ("ClassHouse$Scope", "type", "[I", true)
  | 2 => ("ClassHouse$Scope", "size", "I", false)
  | 3 => ("ClassHouse$Scope", "most", "I", false)
  | 4 => ("ClassHouse$Scope", "set", "[I", true)
  | 5 => ("ClassHouse$Scope", "dead", "Z", false)
  | 6 => ("ClassHouse$Scope", "setAhead", "[[I", true)
  | 7 => ("ClassHouse$Scope", "setBehind", "[[I", true)
  | 8 => ("ClassHouse$Scope", "deadAhead", "[Z", true)
  | 9 => ("ClassHouse$Scope", "deadBehind", "[Z", true)
  | 10 => ("ClassHouse$Scope", "sizeAhead", "[I", true)
  | _ => ("ClassHouse$Scope", "level", "I", false)
def tyX8 : Nat → FieldType := fun k => match k with
  | 0 => .array .int
  | 1 => .array .int
  | 2 => .int
  | 3 => .int
  | 4 => .array .int
  | 5 => .boolean
  | 6 => .array (.array .int)
  | 7 => .array (.array .int)
  | 8 => .array .boolean
  | 9 => .array .boolean
  | 10 => .array .int
  | _ => .int
theorem nmX8 : ∀ a, a < 12 → ∀ b, b < 12 → a ≠ b → (TX8 a).2.1 ≠ (TX8 b).2.1 := by decide +kernel
theorem tyX8_ok : ∀ k, k < 12 → parseFieldDescriptor (TX8 k).2.2.1 = some (tyX8 k) := by decide +kernel
-- class 9: ClassHouse$Typer
def TX9 : u_T := fun k => match k with
  | 0 => ("ClassHouse$Typer", "classes", "LClassHouse$Classes;", true)
  | 1 => ("ClassHouse$Typer", "members", "LClassHouse$Members;", true)
  | 2 => ("ClassHouse$Typer", "code", "LClassHouse$Code;", true)
  | 3 => ("ClassHouse$Typer", "scope", "LClassHouse$Scope;", true)
  | 4 => ("ClassHouse$Typer", "types", "[I", true)
  | 5 => ("ClassHouse$Typer", "top", "I", false)
  | 6 => ("ClassHouse$Typer", "deepest", "I", false)
  | 7 => ("ClassHouse$Typer", "self", "I", false)
  | _ => ("ClassHouse$Typer", "result", "I", false)
def tyX9 : Nat → FieldType := fun k => match k with
  | 0 => .object "ClassHouse$Classes"
  | 1 => .object "ClassHouse$Members"
  | 2 => .object "ClassHouse$Code"
  | 3 => .object "ClassHouse$Scope"
  | 4 => .array .int
  | 5 => .int
  | 6 => .int
  | 7 => .int
  | _ => .int
theorem nmX9 : ∀ a, a < 9 → ∀ b, b < 9 → a ≠ b → (TX9 a).2.1 ≠ (TX9 b).2.1 := by decide +kernel
theorem tyX9_ok : ∀ k, k < 9 → parseFieldDescriptor (TX9 k).2.2.1 = some (tyX9 k) := by decide +kernel
-- class 10: ClassHouse$Words
def TX10 : u_T := fun k => match k with
  | 0 => ("ClassHouse$Words", "kinds", "[I", true)
  | 1 => ("ClassHouse$Words", "values", "[I", true)
  | 2 => ("ClassHouse$Words", "places", "[I", true)
  | 3 => ("ClassHouse$Words", "size", "I", false)
  | 4 => ("ClassHouse$Words", "letters", "[I", true)
  | 5 => ("ClassHouse$Words", "lettersUsed", "I", false)
  | 6 => ("ClassHouse$Words", "nameFrom", "[I", true)
  | 7 => ("ClassHouse$Words", "nameTo", "[I", true)
  | 8 => ("ClassHouse$Words", "nameNext", "[I", true)
  | 9 => ("ClassHouse$Words", "nameHeads", "[I", true)
  | _ => ("ClassHouse$Words", "names", "I", false)
def tyX10 : Nat → FieldType := fun k => match k with
  | 0 => .array .int
  | 1 => .array .int
  | 2 => .array .int
  | 3 => .int
  | 4 => .array .int
  | 5 => .int
  | 6 => .array .int
  | 7 => .array .int
  | 8 => .array .int
  | 9 => .array .int
  | _ => .int
theorem nmX10 : ∀ a, a < 11 → ∀ b, b < 11 → a ≠ b → (TX10 a).2.1 ≠ (TX10 b).2.1 := by decide +kernel
theorem tyX10_ok : ∀ k, k < 11 → parseFieldDescriptor (TX10 k).2.2.1 = some (tyX10 k) := by decide +kernel
-- class 11: ClassHouse
def TX11 : u_T := fun k => match k with
  | 0 => ("ClassHouse", "tape", "[I", true)
  | 1 => ("ClassHouse", "words", "LClassHouse$Words;", true)
  | 2 => ("ClassHouse", "classes", "LClassHouse$Classes;", true)
  | 3 => ("ClassHouse", "reader", "LClassHouse$Reader;", true)
  | 4 => ("ClassHouse", "checker", "LClassHouse$Checker;", true)
  | 5 => ("ClassHouse", "typer", "LClassHouse$Typer;", true)
  | 6 => ("ClassHouse", "numbers", "LClassHouse$Input;", true)
  | 7 => ("ClassHouse", "machine", "LClassHouse$Machine;", true)
  | 8 => ("ClassHouse", "tapeSize", "I", false)
  | 9 => ("ClassHouse", "heapSize", "I", false)
  | _ => ("ClassHouse", "ready", "Z", false)
def tyX11 : Nat → FieldType := fun k => match k with
  | 0 => .array .int
  | 1 => .object "ClassHouse$Words"
  | 2 => .object "ClassHouse$Classes"
  | 3 => .object "ClassHouse$Reader"
  | 4 => .object "ClassHouse$Checker"
  | 5 => .object "ClassHouse$Typer"
  | 6 => .object "ClassHouse$Input"
  | 7 => .object "ClassHouse$Machine"
  | 8 => .int
  | 9 => .int
  | _ => .boolean
theorem nmX11 : ∀ a, a < 11 → ∀ b, b < 11 → a ≠ b → (TX11 a).2.1 ≠ (TX11 b).2.1 := by decide +kernel
theorem tyX11_ok : ∀ k, k < 11 → parseFieldDescriptor (TX11 k).2.2.1 = some (tyX11 k) := by decide +kernel
-- class 12: ClassHouseModel
def TX12 : u_T := fun k => match k with
  | 0 => ("ClassHouseModel", "tape", "[I", true)
  | 1 => ("ClassHouseModel", "taped", "I", false)
  | 2 => ("ClassHouseModel", "source", "[I", true)
  | 3 => ("ClassHouseModel", "length", "I", false)
  | 4 => ("ClassHouseModel", "at", "I", false)
  | 5 => ("ClassHouseModel", "word", "I", false)
  | 6 => ("ClassHouseModel", "wordFrom", "I", false)
  | 7 => ("ClassHouseModel", "wordLong", "I", false)
  | 8 => ("ClassHouseModel", "wordValue", "I", false)
  | 9 => ("ClassHouseModel", "wrong", "I", false)
  | 10 => ("ClassHouseModel", "deep", "I", false)
  | 11 => ("ClassHouseModel", "names", "I", false)
  | 12 => ("ClassHouseModel", "nameFrom", "[I", true)
  | 13 => ("ClassHouseModel", "nameLong", "[I", true)
  | 14 => ("ClassHouseModel", "known", "[I", true)
  | 15 => ("ClassHouseModel", "nodes", "I", false)
  | 16 => ("ClassHouseModel", "is", "[I", true)
  | 17 => ("ClassHouseModel", "one", "[I", true)
  | 18 => ("ClassHouseModel", "two", "[I", true)
  | 19 => ("ClassHouseModel", "of", "[I", true)
  | 20 => ("ClassHouseModel", "typeOf", "[I", true)
  | 21 => ("ClassHouseModel", "listed", "I", false)
  | 22 => ("ClassHouseModel", "list", "[I", true)
  | 23 => ("ClassHouseModel", "held", "I", false)
  | 24 => ("ClassHouseModel", "hold", "[I", true)
  | 25 => ("ClassHouseModel", "statements", "I", false)
  | 26 => ("ClassHouseModel", "statementIs", "[I", true)
  | 27 => ("ClassHouseModel", "place", "[I", true)
  | 28 => ("ClassHouseModel", "nodesFrom", "[I", true)
  | 29 => ("ClassHouseModel", "value", "[I", true)
  | 30 => ("ClassHouseModel", "target", "[I", true)
  | 31 => ("ClassHouseModel", "toldType", "[I", true)
  | 32 => ("ClassHouseModel", "toldName", "[I", true)
  | 33 => ("ClassHouseModel", "variable", "[I", true)
  | 34 => ("ClassHouseModel", "inner", "[I", true)
  | 35 => ("ClassHouseModel", "other", "[I", true)
  | 36 => ("ClassHouseModel", "nextOf", "[I", true)
  | 37 => ("ClassHouseModel", "classes", "I", false)
  | 38 => ("ClassHouseModel", "classId", "[I", true)
  | 39 => ("ClassHouseModel", "classAt", "[I", true)
  | 40 => ("ClassHouseModel", "parentId", "[I", true)
  | 41 => ("ClassHouseModel", "parent", "[I", true)
  | 42 => ("ClassHouseModel", "fieldMany", "[I", true)
  | 43 => ("ClassHouseModel", "memberFrom", "[I", true)
  | 44 => ("ClassHouseModel", "members", "I", false)
  | 45 => ("ClassHouseModel", "memberId", "[I", true)
  | 46 => ("ClassHouseModel", "memberAt", "[I", true)
  | 47 => ("ClassHouseModel", "memberType", "[I", true)
  | 48 => ("ClassHouseModel", "isMethod", "[Z", true)
  | 49 => ("ClassHouseModel", "parameterFrom", "[I", true)
  | 50 => ("ClassHouseModel", "body", "[I", true)
  | 51 => ("ClassHouseModel", "closeAt", "[I", true)
  | 52 => ("ClassHouseModel", "slot", "[I", true)
  | 53 => ("ClassHouseModel", "parameters", "I", false)
  | 54 => ("ClassHouseModel", "parameterType", "[I", true)
  | 55 => ("ClassHouseModel", "parameterId", "[I", true)
  | 56 => ("ClassHouseModel", "hasProgram", "Z", false)
  | 57 => ("ClassHouseModel", "blockEnd", "I", false)
  | 58 => ("ClassHouseModel", "bad", "I", false)
  | 59 => ("ClassHouseModel", "mainClass", "I", false)
  | 60 => ("ClassHouseModel", "here", "I", false)
  | 61 => ("ClassHouseModel", "method", "I", false)
  | 62 => ("ClassHouseModel", "variables", "I", false)
  | 63 => ("ClassHouseModel", "variableId", "[I", true)
  | 64 => ("ClassHouseModel", "variableType", "[I", true)
  | 65 => ("ClassHouseModel", "isSet", "[Z", true)
  | 66 => ("ClassHouseModel", "dead", "Z", false)
  | 67 => ("ClassHouseModel", "sets", "[Z", true)
  | 68 => ("ClassHouseModel", "manyOf", "[I", true)
  | 69 => ("ClassHouseModel", "hasRun", "Z", false)
  | 70 => ("ClassHouseModel", "over", "I", false)
  | 71 => ("ClassHouseModel", "heapNext", "I", false)
  | 72 => ("ClassHouseModel", "heap", "I", false)
  | 73 => ("ClassHouseModel", "bound", "I", false)
  | 74 => ("ClassHouseModel", "made", "I", false)
  | 75 => ("ClassHouseModel", "steps", "I", false)
  | 76 => ("ClassHouseModel", "thrown", "I", false)
  | 77 => ("ClassHouseModel", "ended", "I", false)
  | 78 => ("ClassHouseModel", "printed", "I", false)
  | 79 => ("ClassHouseModel", "output", "[I", true)
  | 80 => ("ClassHouseModel", "inputs", "I", false)
  | 81 => ("ClassHouseModel", "input", "[I", true)
  | 82 => ("ClassHouseModel", "objects", "I", false)
  | 83 => ("ClassHouseModel", "classOfObject", "[I", true)
  | 84 => ("ClassHouseModel", "wordsFrom", "[I", true)
  | 85 => ("ClassHouseModel", "wordsMany", "[I", true)
  | 86 => ("ClassHouseModel", "isReached", "[Z", true)
  | 87 => ("ClassHouseModel", "newPlace", "[I", true)
  | 88 => ("ClassHouseModel", "waits", "[I", true)
  | 89 => ("ClassHouseModel", "waiting", "I", false)
  | 90 => ("ClassHouseModel", "worded", "I", false)
  | 91 => ("ClassHouseModel", "words", "[I", true)
  | 92 => ("ClassHouseModel", "isObject", "[Z", true)
  | 93 => ("ClassHouseModel", "open", "I", false)
  | 94 => ("ClassHouseModel", "openThis", "[I", true)
  | 95 => ("ClassHouseModel", "openFrom", "[I", true)
  | 96 => ("ClassHouseModel", "openMany", "[I", true)
  | 97 => ("ClassHouseModel", "openPile", "[I", true)
  | 98 => ("ClassHouseModel", "local", "[I", true)
  | 99 => ("ClassHouseModel", "isLocalObject", "[Z", true)
  | 100 => ("ClassHouseModel", "piled", "I", false)
  | 101 => ("ClassHouseModel", "pile", "[I", true)
  | 102 => ("ClassHouseModel", "isPileObject", "[Z", true)
  | 103 => ("ClassHouseModel", "todo", "I", false)
  | 104 => ("ClassHouseModel", "todoIs", "[I", true)
  | 105 => ("ClassHouseModel", "todoOf", "[I", true)
  | 106 => ("ClassHouseModel", "tries", "I", false)
  | 107 => ("ClassHouseModel", "tryPile", "[I", true)
  | _ => ("ClassHouseModel", "tryMany", "[I", true)
def tyX12 : Nat → FieldType := fun k => match k with
  | 0 => .array .int
  | 1 => .int
  | 2 => .array .int
  | 3 => .int
  | 4 => .int
  | 5 => .int
  | 6 => .int
  | 7 => .int
  | 8 => .int
  | 9 => .int
  | 10 => .int
  | 11 => .int
  | 12 => .array .int
  | 13 => .array .int
  | 14 => .array .int
  | 15 => .int
  | 16 => .array .int
  | 17 => .array .int
  | 18 => .array .int
  | 19 => .array .int
  | 20 => .array .int
  | 21 => .int
  | 22 => .array .int
  | 23 => .int
  | 24 => .array .int
  | 25 => .int
  | 26 => .array .int
  | 27 => .array .int
  | 28 => .array .int
  | 29 => .array .int
  | 30 => .array .int
  | 31 => .array .int
  | 32 => .array .int
  | 33 => .array .int
  | 34 => .array .int
  | 35 => .array .int
  | 36 => .array .int
  | 37 => .int
  | 38 => .array .int
  | 39 => .array .int
  | 40 => .array .int
  | 41 => .array .int
  | 42 => .array .int
  | 43 => .array .int
  | 44 => .int
  | 45 => .array .int
  | 46 => .array .int
  | 47 => .array .int
  | 48 => .array .boolean
  | 49 => .array .int
  | 50 => .array .int
  | 51 => .array .int
  | 52 => .array .int
  | 53 => .int
  | 54 => .array .int
  | 55 => .array .int
  | 56 => .boolean
  | 57 => .int
  | 58 => .int
  | 59 => .int
  | 60 => .int
  | 61 => .int
  | 62 => .int
  | 63 => .array .int
  | 64 => .array .int
  | 65 => .array .boolean
  | 66 => .boolean
  | 67 => .array .boolean
  | 68 => .array .int
  | 69 => .boolean
  | 70 => .int
  | 71 => .int
  | 72 => .int
  | 73 => .int
  | 74 => .int
  | 75 => .int
  | 76 => .int
  | 77 => .int
  | 78 => .int
  | 79 => .array .int
  | 80 => .int
  | 81 => .array .int
  | 82 => .int
  | 83 => .array .int
  | 84 => .array .int
  | 85 => .array .int
  | 86 => .array .boolean
  | 87 => .array .int
  | 88 => .array .int
  | 89 => .int
  | 90 => .int
  | 91 => .array .int
  | 92 => .array .boolean
  | 93 => .int
  | 94 => .array .int
  | 95 => .array .int
  | 96 => .array .int
  | 97 => .array .int
  | 98 => .array .int
  | 99 => .array .boolean
  | 100 => .int
  | 101 => .array .int
  | 102 => .array .boolean
  | 103 => .int
  | 104 => .array .int
  | 105 => .array .int
  | 106 => .int
  | 107 => .array .int
  | _ => .array .int
theorem nmX12 : ∀ a, a < 109 → ∀ b, b < 109 → a ≠ b → (TX12 a).2.1 ≠ (TX12 b).2.1 := by decide +kernel
theorem tyX12_ok : ∀ k, k < 109 → parseFieldDescriptor (TX12 k).2.2.1 = some (tyX12 k) := by decide +kernel
abbrev vwCl : List vw_C := [("ClassHouse$Checker", TX0, 2), ("ClassHouse$Classes", TX1, 8), ("ClassHouse$Code", TX2, 10), ("ClassHouse$Heap", TX3, 4), ("ClassHouse$Input", TX4, 3), ("ClassHouse$Machine", TX5, 20), ("ClassHouse$Members", TX6, 15), ("ClassHouse$Reader", TX7, 12), ("ClassHouse$Scope", TX8, 12), ("ClassHouse$Typer", TX9, 9), ("ClassHouse$Words", TX10, 11), ("ClassHouse", TX11, 11), ("ClassHouseModel", TX12, 109)]
/-- the types of the fields, by class -/
def pTys : List (Nat → FieldType) := [tyX0, tyX1, tyX2, tyX3, tyX4, tyX5, tyX6, tyX7, tyX8, tyX9, tyX10, tyX11, tyX12]
/-- the names of the classes, by their numbers: own ones, then the JDK's, then the law's -/
def pCn : List String := ["ClassHouse$Checker", "ClassHouse$Classes", "ClassHouse$Code", "ClassHouse$Heap", "ClassHouse$Input", "ClassHouse$Machine", "ClassHouse$Members", "ClassHouse$Reader", "ClassHouse$Scope", "ClassHouse$Typer", "ClassHouse$Words", "ClassHouse", "ClassHouseModel", "java/lang/String", "java/lang/StringLatin1", "java/lang/StringUTF16", "java/util/Arrays", "jdk/internal/util/Preconditions", "java/lang/Math", "java/lang/Character", "java/lang/System", "ClassHouseLaw"]
def pLy0 : List Nat := [2068, 2070]
theorem pLy0_ok : ∀ k, k < 2 → pW (pLy0.getD k 0) = some (u_lay "ClassHouse$Checker" TX0 k) := by decide +kernel
theorem pIn0 : ∀ w ∈ u_ws "ClassHouse$Checker" TX0 2, w ∈ pT := fun w h => by
  obtain ⟨j, hj, rfl⟩ := List.mem_map.mp h
  exact pT_in (pLy0_ok j (List.mem_range.mp hj)) (pLay_good _ _ _)
def pLy1 : List Nat := [1117, 1119, 1121, 1123, 1125, 1127, 1129, 1131]
theorem pLy1_ok : ∀ k, k < 8 → pW (pLy1.getD k 0) = some (u_lay "ClassHouse$Classes" TX1 k) := by decide +kernel
theorem pIn1 : ∀ w ∈ u_ws "ClassHouse$Classes" TX1 8, w ∈ pT := fun w h => by
  obtain ⟨j, hj, rfl⟩ := List.mem_map.mp h
  exact pT_in (pLy1_ok j (List.mem_range.mp hj)) (pLay_good _ _ _)
def pLy2 : List Nat := [1236, 1238, 2000, 2002, 2004, 2006, 2008, 2010, 2012, 2014]
theorem pLy2_ok : ∀ k, k < 10 → pW (pLy2.getD k 0) = some (u_lay "ClassHouse$Code" TX2 k) := by decide +kernel
theorem pIn2 : ∀ w ∈ u_ws "ClassHouse$Code" TX2 10, w ∈ pT := fun w h => by
  obtain ⟨j, hj, rfl⟩ := List.mem_map.mp h
  exact pT_in (pLy2_ok j (List.mem_range.mp hj)) (pLay_good _ _ _)
def pLy3 : List Nat := [2189, 2191, 2193, 2195]
theorem pLy3_ok : ∀ k, k < 4 → pW (pLy3.getD k 0) = some (u_lay "ClassHouse$Heap" TX3 k) := by decide +kernel
theorem pIn3 : ∀ w ∈ u_ws "ClassHouse$Heap" TX3 4, w ∈ pT := fun w h => by
  obtain ⟨j, hj, rfl⟩ := List.mem_map.mp h
  exact pT_in (pLy3_ok j (List.mem_range.mp hj)) (pLay_good _ _ _)
def pLy4 : List Nat := [2166, 2168, 2170]
theorem pLy4_ok : ∀ k, k < 3 → pW (pLy4.getD k 0) = some (u_lay "ClassHouse$Input" TX4 k) := by decide +kernel
theorem pIn4 : ∀ w ∈ u_ws "ClassHouse$Input" TX4 3, w ∈ pT := fun w h => by
  obtain ⟨j, hj, rfl⟩ := List.mem_map.mp h
  exact pT_in (pLy4_ok j (List.mem_range.mp hj)) (pLay_good _ _ _)
def pLy5 : List Nat := [2224, 2226, 2228, 2230, 2232, 2234, 2236, 2238, 3000, 3002, 3004, 3006, 3008, 3010, 3012, 3014, 3016, 3018, 3020, 3022]
theorem pLy5_ok : ∀ k, k < 20 → pW (pLy5.getD k 0) = some (u_lay "ClassHouse$Machine" TX5 k) := by decide +kernel
theorem pIn5 : ∀ w ∈ u_ws "ClassHouse$Machine" TX5 20, w ∈ pT := fun w h => by
  obtain ⟨j, hj, rfl⟩ := List.mem_map.mp h
  exact pT_in (pLy5_ok j (List.mem_range.mp hj)) (pLay_good _ _ _)
def pLy6 : List Nat := [1171, 1173, 1175, 1177, 1179, 1181, 1183, 1185, 1187, 1189, 1191, 1193, 1195, 1197, 1199]
theorem pLy6_ok : ∀ k, k < 15 → pW (pLy6.getD k 0) = some (u_lay "ClassHouse$Members" TX6 k) := by decide +kernel
theorem pIn6 : ∀ w ∈ u_ws "ClassHouse$Members" TX6 15, w ∈ pT := fun w h => by
  obtain ⟨j, hj, rfl⟩ := List.mem_map.mp h
  exact pT_in (pLy6_ok j (List.mem_range.mp hj)) (pLay_good _ _ _)
def pLy7 : List Nat := [2035, 2037, 2039, 2041, 2043, 2045, 2047, 2049, 2051, 2053, 2055, 2057]
theorem pLy7_ok : ∀ k, k < 12 → pW (pLy7.getD k 0) = some (u_lay "ClassHouse$Reader" TX7 k) := by decide +kernel
theorem pIn7 : ∀ w ∈ u_ws "ClassHouse$Reader" TX7 12, w ∈ pT := fun w h => by
  obtain ⟨j, hj, rfl⟩ := List.mem_map.mp h
  exact pT_in (pLy7_ok j (List.mem_range.mp hj)) (pLay_good _ _ _)
def pLy8 : List Nat := [2103, 2105, 2107, 2109, 2111, 2113, 2115, 2117, 2119, 2121, 2123, 2125]
theorem pLy8_ok : ∀ k, k < 12 → pW (pLy8.getD k 0) = some (u_lay "ClassHouse$Scope" TX8 k) := by decide +kernel
theorem pIn8 : ∀ w ∈ u_ws "ClassHouse$Scope" TX8 12, w ∈ pT := fun w h => by
  obtain ⟨j, hj, rfl⟩ := List.mem_map.mp h
  exact pT_in (pLy8_ok j (List.mem_range.mp hj)) (pLay_good _ _ _)
def pLy9 : List Nat := [2137, 2139, 2141, 2143, 2145, 2147, 2149, 2151, 2153]
theorem pLy9_ok : ∀ k, k < 9 → pW (pLy9.getD k 0) = some (u_lay "ClassHouse$Typer" TX9 k) := by decide +kernel
theorem pIn9 : ∀ w ∈ u_ws "ClassHouse$Typer" TX9 9, w ∈ pT := fun w h => by
  obtain ⟨j, hj, rfl⟩ := List.mem_map.mp h
  exact pT_in (pLy9_ok j (List.mem_range.mp hj)) (pLay_good _ _ _)
def pLy10 : List Nat := [1062, 1064, 1066, 1068, 1070, 1072, 1074, 1076, 1078, 1080, 1082]
theorem pLy10_ok : ∀ k, k < 11 → pW (pLy10.getD k 0) = some (u_lay "ClassHouse$Words" TX10 k) := by decide +kernel
theorem pIn10 : ∀ w ∈ u_ws "ClassHouse$Words" TX10 11, w ∈ pT := fun w h => by
  obtain ⟨j, hj, rfl⟩ := List.mem_map.mp h
  exact pT_in (pLy10_ok j (List.mem_range.mp hj)) (pLay_good _ _ _)
def pLy11 : List Nat := [3036, 3038, 3040, 3042, 3044, 3046, 3048, 3050, 3052, 3054, 3056]
theorem pLy11_ok : ∀ k, k < 11 → pW (pLy11.getD k 0) = some (u_lay "ClassHouse" TX11 k) := by decide +kernel
theorem pIn11 : ∀ w ∈ u_ws "ClassHouse" TX11 11, w ∈ pT := fun w h => by
  obtain ⟨j, hj, rfl⟩ := List.mem_map.mp h
  exact pT_in (pLy11_ok j (List.mem_range.mp hj)) (pLay_good _ _ _)
def pLy12 : List Nat := [7123, 7125, 7127, 7129, 7131, 7133, 7135, 7137, 7139, 7141, 7143, 7145, 7147, 7149, 7151, 7153, 7155, 7157, 7159, 7161, 7163, 7165, 7167, 7169, 7171, 7173, 7175, 7177, 7179, 7181, 7183, 7185, 7187, 7189, 7191, 7193, 7195, 7197, 7199, 7201, 7203, 7205, 7207, 7209, 7211, 7213, 7215, 7217, 7219, 7221, 7223, 7225, 7227, 7229, 7231, 7233, 7235, 7237, 7239, 8001, 8003, 8005, 8007, 8009, 8011, 8013, 8015, 8017, 8019, 8021, 8023, 8025, 8027, 8029, 8031, 8033, 8035, 8037, 8039, 8041, 8043, 8045, 8047, 8049, 8051, 8053, 8055, 8057, 8059, 8061, 8063, 8065, 8067, 8069, 8071, 8073, 8075, 8077, 8079, 8081, 8083, 8085, 8087, 8089, 8091, 8093, 8095, 8097, 8099]
theorem pLy12_ok : ∀ k, k < 109 → pW (pLy12.getD k 0) = some (u_lay "ClassHouseModel" TX12 k) := by decide +kernel
theorem pIn12 : ∀ w ∈ u_ws "ClassHouseModel" TX12 109, w ∈ pT := fun w h => by
  obtain ⟨j, hj, rfl⟩ := List.mem_map.mp h
  exact pT_in (pLy12_ok j (List.mem_range.mp hj)) (pLay_good _ _ _)
/-- the fields of a new object, by class -/
def pFs0 : List (List Value) := [[.null, .null], [.null, .null, .null, .null, .null, .null, .null, .int 0], [.null, .null, .null, .null, .null, .null, .null, .int 0, .int 0, .int 0], [.null, .null, .int 0, .int 0], [.null, .int 0, .int 0], [.null, .null, .null, .null, .null, .null, .int 0, .null, .null, .null, .null, .int 0, .int 0, .int 0, .int 0, .int 0, .int 0, .int 0, .null, .int 0], [.null, .null, .null, .null, .null, .null, .null, .null, .null, .null, .null, .int 0, .null, .null, .int 0], [.null, .null, .null, .null, .null, .null, .null, .int 0, .int 0, .int 0, .int 0, .int 0], [.null, .null, .int 0, .int 0, .null, .int 0, .null, .null, .null, .null, .null, .int 0], [.null, .null, .null, .null, .null, .int 0, .int 0, .int 0, .int 0], [.null, .null, .null, .int 0, .null, .int 0, .null, .null, .null, .null, .int 0], [.null, .null, .null, .null, .null, .null, .null, .null, .int 0, .int 0, .int 0], [.null, .int 0, .null, .int 0, .int 0, .int 0, .int 0, .int 0, .int 0, .int 0, .int 0, .int 0, .null, .null, .null, .int 0, .null, .null, .null, .null, .null, .int 0, .null, .int 0, .null, .int 0, .null, .null, .null, .null, .null, .null, .null, .null, .null, .null, .null, .int 0, .null, .null, .null, .null, .null, .null, .int 0, .null, .null, .null, .null, .null, .null, .null, .null, .int 0, .null, .null, .int 0, .int 0, .int 0, .int 0, .int 0, .int 0, .int 0, .null, .null, .null, .int 0, .null, .null, .int 0, .int 0, .int 0, .int 0, .int 0, .int 0, .int 0, .int 0, .int 0, .int 0, .null, .int 0, .null, .int 0, .null, .null, .null, .null, .null, .null, .int 0, .int 0, .null, .null, .int 0, .null, .null, .null, .null, .null, .null, .int 0, .null, .null, .int 0, .null, .null, .int 0, .null, .null]]
