/-! BEGIN the world of the class and of the reference: 73 cells; printed by wip/gen/world.py out of javap. Objects 0..11, arrays from 12 on; scalars are rows 1000.. of the picture -/
-- object 0: ValueMill
-- object 1: ValueMill$Program
-- object 2: ValueMill$Flow
-- object 3: ValueMill$Lives
-- object 4: ValueMill$Names
-- object 5: ValueMill$Stands
-- object 6: ValueMill$Homes
-- object 7: ValueMill$Code
-- object 8: ValueMill$Moves
-- object 9: ValueMill$Writer
-- object 10: ValueMill$Machine
-- object 11: ValueMillModel
-- array 12: ValueMill$Program.kind, 120 int
-- array 13: ValueMill$Program.d, 120 int
-- array 14: ValueMill$Program.a, 120 int
-- array 15: ValueMill$Program.b, 120 int
-- array 16: ValueMill$Program.length, 10 int
-- array 17: ValueMill$Program.end, 10 int
-- array 18: ValueMill$Program.endTemp, 10 int
-- array 19: ValueMill$Program.first, 10 int
-- array 20: ValueMill$Program.second, 10 int
-- array 21: ValueMill$Program.told, 32 int
-- array 22: ValueMill$Flow.next, 10 int
-- array 23: ValueMill$Flow.previous, 10 int
-- array 24: ValueMill$Flow.order, 10 int
-- array 25: ValueMill$Flow.dominators, 10 int
-- array 26: ValueMill$Flow.nearest, 10 int
-- array 27: ValueMill$Flow.frontier, 10 int
-- array 28: ValueMill$Flow.depth, 10 int
-- array 29: ValueMill$Lives.reads, 10 int
-- array 30: ValueMill$Lives.writes, 10 int
-- array 31: ValueMill$Lives.live, 10 int
-- array 32: ValueMill$Lives.phis, 10 int
-- array 33: ValueMill$Names.a, 120 int
-- array 34: ValueMill$Names.b, 120 int
-- array 35: ValueMill$Names.end, 10 int
-- array 36: ValueMill$Names.behind, 100 int
-- array 37: ValueMill$Stands.how, 221 int
-- array 38: ValueMill$Stands.what, 221 int
-- array 39: ValueMill$Stands.phisOfTheirOwn, 10 int
-- array 40: ValueMill$Homes.home, 221 int
-- array 41: ValueMill$Homes.cost, 221 long
-- array 42: ValueMill$Homes.current, 10 int
-- array 43: ValueMill$Homes.holder, 8 int
-- array 44: ValueMill$Homes.liveBehind, 12 int
-- array 45: ValueMill$Code.from, 30 int
-- array 46: ValueMill$Code.to, 30 int
-- array 47: ValueMill$Code.kind, 1090 int
-- array 48: ValueMill$Code.d, 1090 int
-- array 49: ValueMill$Code.a, 1090 int
-- array 50: ValueMill$Code.b, 1090 int
-- array 51: ValueMill$Code.form, 1090 int
-- array 52: ValueMill$Code.end, 10 int
-- array 53: ValueMill$Code.endIsNumber, 10 boolean
-- array 54: ValueMill$Moves.target, 10 int
-- array 55: ValueMill$Moves.source, 10 int
-- array 56: ValueMill$Moves.isNumber, 10 boolean
-- array 57: ValueMill$Machine.cells, 230 int
-- array 58: ValueMill$Machine.words, 32 int
-- array 59: ValueMill$Machine.log, 600 int
-- array 60: ValueMillModel.counts, 10 int
-- array 61: ValueMillModel.ops, 480 int
-- array 62: ValueMillModel.endKind, 10 int
-- array 63: ValueMillModel.endTemp, 10 int
-- array 64: ValueMillModel.first, 10 int
-- array 65: ValueMillModel.second, 10 int
-- array 66: ValueMillModel.told, 32 int
-- array 67: ValueMillModel.words, 32 int
-- array 68: ValueMillModel.temps, 10 int
-- array 69: ValueMillModel.callRows, 600 int
-- array 70: ValueMillModel.noted, 10 int
-- array 71: ValueMillModel.stack, 10 int
-- array 72: ValueMillModel.gone, 10 int
-- scalar 1000: ValueMill.looked, boolean
-- scalar 1001: ValueMill.madeStage, int
-- scalar 1002: ValueMill.madeRegisters, int
-- scalar 1003: ValueMill$Program.blocks, int
-- scalar 1004: ValueMill$Flow.alive, int
-- scalar 1005: ValueMill$Flow.gone, int
-- scalar 1006: ValueMill$Flow.count, int
-- scalar 1007: ValueMill$Homes.firstSlot, int
-- scalar 1008: ValueMill$Homes.scratch, int
-- scalar 1009: ValueMill$Homes.shared, int
-- scalar 1010: ValueMill$Homes.usesSlots, boolean
-- scalar 1011: ValueMill$Code.length, int
-- scalar 1012: ValueMill$Moves.count, int
-- scalar 1013: ValueMill$Machine.returned, int
-- scalar 1014: ValueMill$Machine.blocksEntered, int
-- scalar 1015: ValueMill$Machine.callsMade, int
-- scalar 1016: ValueMillModel.blocks, int
-- scalar 1017: ValueMillModel.hasRun, boolean
-- scalar 1018: ValueMillModel.value, int
-- scalar 1019: ValueMillModel.entered, int
-- scalar 1020: ValueMillModel.calls, int
abbrev mz_St : Type := Nat → Nat → Int32
def mz_up (σ : mz_St) (a i : Nat) (v : Int32) : mz_St := fun b => if b = a then upd (σ a) i v else σ b
def mz_rd (σ : mz_St) (a : Nat) (i : Int32) : Int32 := σ a i.toNatClampNeg
def mz_wr (σ : mz_St) (a : Nat) (i v : Int32) : mz_St := mz_up σ a i.toNatClampNeg v
/-- what is fixed: class numbers and slots, addresses, the classes of int[], long[], boolean[] -/
abbrev mz_En : Type := va_G × (Nat → Nat) × ClassId × ClassId × ClassId
def mz_RMill : String := "ValueMill"
def mz_TMill : u_T := fun k => match k with
  | 0 => ("ValueMill", "program", "LValueMill$Program;", true)
  | 1 => ("ValueMill", "flow", "LValueMill$Flow;", true)
  | 2 => ("ValueMill", "lives", "LValueMill$Lives;", true)
  | 3 => ("ValueMill", "names", "LValueMill$Names;", true)
  | 4 => ("ValueMill", "stands", "LValueMill$Stands;", true)
  | 5 => ("ValueMill", "homes", "LValueMill$Homes;", true)
  | 6 => ("ValueMill", "code", "LValueMill$Code;", true)
  | 7 => ("ValueMill", "writer", "LValueMill$Writer;", true)
  | 8 => ("ValueMill", "machine", "LValueMill$Machine;", true)
  | 9 => ("ValueMill", "looked", "Z", false)
  | 10 => ("ValueMill", "madeStage", "I", false)
  | _ => ("ValueMill", "madeRegisters", "I", false)
def mz_yMill : Nat → FieldType := fun k => match k with
  | 0 => .object "ValueMill$Program"
  | 1 => .object "ValueMill$Flow"
  | 2 => .object "ValueMill$Lives"
  | 3 => .object "ValueMill$Names"
  | 4 => .object "ValueMill$Stands"
  | 5 => .object "ValueMill$Homes"
  | 6 => .object "ValueMill$Code"
  | 7 => .object "ValueMill$Writer"
  | 8 => .object "ValueMill$Machine"
  | 9 => .boolean
  | 10 => .int
  | _ => .int
theorem mz_nMill : ∀ a, a < 12 → ∀ b, b < 12 → a ≠ b → (mz_TMill a).2.1 ≠ (mz_TMill b).2.1 := by decide +kernel
theorem mz_kMill : ∀ k, k < 12 → parseFieldDescriptor (mz_TMill k).2.2.1 = some (mz_yMill k) := by decide +kernel
def mz_RProgram : String := "ValueMill$Program"
def mz_TProgram : u_T := fun k => match k with
  | 0 => ("ValueMill$Program", "kind", "[I", true)
  | 1 => ("ValueMill$Program", "d", "[I", true)
  | 2 => ("ValueMill$Program", "a", "[I", true)
  | 3 => ("ValueMill$Program", "b", "[I", true)
  | 4 => ("ValueMill$Program", "length", "[I", true)
  | 5 => ("ValueMill$Program", "end", "[I", true)
  | 6 => ("ValueMill$Program", "endTemp", "[I", true)
  | 7 => ("ValueMill$Program", "first", "[I", true)
  | 8 => ("ValueMill$Program", "second", "[I", true)
  | 9 => ("ValueMill$Program", "told", "[I", true)
  | _ => ("ValueMill$Program", "blocks", "I", false)
def mz_yProgram : Nat → FieldType := fun k => match k with
  | 0 => .array .int
  | 1 => .array .int
  | 2 => .array .int
  | 3 => .array .int
  | 4 => .array .int
  | 5 => .array .int
  | 6 => .array .int
  | 7 => .array .int
  | 8 => .array .int
  | 9 => .array .int
  | _ => .int
theorem mz_nProgram : ∀ a, a < 11 → ∀ b, b < 11 → a ≠ b → (mz_TProgram a).2.1 ≠ (mz_TProgram b).2.1 := by decide +kernel
theorem mz_kProgram : ∀ k, k < 11 → parseFieldDescriptor (mz_TProgram k).2.2.1 = some (mz_yProgram k) := by decide +kernel
def mz_RFlow : String := "ValueMill$Flow"
def mz_TFlow : u_T := fun k => match k with
  | 0 => ("ValueMill$Flow", "program", "LValueMill$Program;", true)
  | 1 => ("ValueMill$Flow", "next", "[I", true)
  | 2 => ("ValueMill$Flow", "previous", "[I", true)
  | 3 => ("ValueMill$Flow", "order", "[I", true)
  | 4 => ("ValueMill$Flow", "dominators", "[I", true)
  | 5 => ("ValueMill$Flow", "nearest", "[I", true)
  | 6 => ("ValueMill$Flow", "frontier", "[I", true)
  | 7 => ("ValueMill$Flow", "depth", "[I", true)
  | 8 => ("ValueMill$Flow", "alive", "I", false)
  | 9 => ("ValueMill$Flow", "gone", "I", false)
  | _ => ("ValueMill$Flow", "count", "I", false)
def mz_yFlow : Nat → FieldType := fun k => match k with
  | 0 => .object "ValueMill$Program"
  | 1 => .array .int
  | 2 => .array .int
  | 3 => .array .int
  | 4 => .array .int
  | 5 => .array .int
  | 6 => .array .int
  | 7 => .array .int
  | 8 => .int
  | 9 => .int
  | _ => .int
theorem mz_nFlow : ∀ a, a < 11 → ∀ b, b < 11 → a ≠ b → (mz_TFlow a).2.1 ≠ (mz_TFlow b).2.1 := by decide +kernel
theorem mz_kFlow : ∀ k, k < 11 → parseFieldDescriptor (mz_TFlow k).2.2.1 = some (mz_yFlow k) := by decide +kernel
def mz_RLives : String := "ValueMill$Lives"
def mz_TLives : u_T := fun k => match k with
  | 0 => ("ValueMill$Lives", "program", "LValueMill$Program;", true)
  | 1 => ("ValueMill$Lives", "flow", "LValueMill$Flow;", true)
  | 2 => ("ValueMill$Lives", "reads", "[I", true)
  | 3 => ("ValueMill$Lives", "writes", "[I", true)
  | 4 => ("ValueMill$Lives", "live", "[I", true)
  | _ => ("ValueMill$Lives", "phis", "[I", true)
def mz_yLives : Nat → FieldType := fun k => match k with
  | 0 => .object "ValueMill$Program"
  | 1 => .object "ValueMill$Flow"
  | 2 => .array .int
  | 3 => .array .int
  | 4 => .array .int
  | _ => .array .int
theorem mz_nLives : ∀ a, a < 6 → ∀ b, b < 6 → a ≠ b → (mz_TLives a).2.1 ≠ (mz_TLives b).2.1 := by decide +kernel
theorem mz_kLives : ∀ k, k < 6 → parseFieldDescriptor (mz_TLives k).2.2.1 = some (mz_yLives k) := by decide +kernel
def mz_RNames : String := "ValueMill$Names"
def mz_TNames : u_T := fun k => match k with
  | 0 => ("ValueMill$Names", "program", "LValueMill$Program;", true)
  | 1 => ("ValueMill$Names", "flow", "LValueMill$Flow;", true)
  | 2 => ("ValueMill$Names", "lives", "LValueMill$Lives;", true)
  | 3 => ("ValueMill$Names", "a", "[I", true)
  | 4 => ("ValueMill$Names", "b", "[I", true)
  | 5 => ("ValueMill$Names", "end", "[I", true)
  | _ => ("ValueMill$Names", "behind", "[I", true)
def mz_yNames : Nat → FieldType := fun k => match k with
  | 0 => .object "ValueMill$Program"
  | 1 => .object "ValueMill$Flow"
  | 2 => .object "ValueMill$Lives"
  | 3 => .array .int
  | 4 => .array .int
  | 5 => .array .int
  | _ => .array .int
theorem mz_nNames : ∀ a, a < 7 → ∀ b, b < 7 → a ≠ b → (mz_TNames a).2.1 ≠ (mz_TNames b).2.1 := by decide +kernel
theorem mz_kNames : ∀ k, k < 7 → parseFieldDescriptor (mz_TNames k).2.2.1 = some (mz_yNames k) := by decide +kernel
def mz_RStands : String := "ValueMill$Stands"
def mz_TStands : u_T := fun k => match k with
  | 0 => ("ValueMill$Stands", "program", "LValueMill$Program;", true)
  | 1 => ("ValueMill$Stands", "flow", "LValueMill$Flow;", true)
  | 2 => ("ValueMill$Stands", "lives", "LValueMill$Lives;", true)
  | 3 => ("ValueMill$Stands", "names", "LValueMill$Names;", true)
  | 4 => ("ValueMill$Stands", "how", "[I", true)
  | 5 => ("ValueMill$Stands", "what", "[I", true)
  | _ => ("ValueMill$Stands", "phisOfTheirOwn", "[I", true)
def mz_yStands : Nat → FieldType := fun k => match k with
  | 0 => .object "ValueMill$Program"
  | 1 => .object "ValueMill$Flow"
  | 2 => .object "ValueMill$Lives"
  | 3 => .object "ValueMill$Names"
  | 4 => .array .int
  | 5 => .array .int
  | _ => .array .int
theorem mz_nStands : ∀ a, a < 7 → ∀ b, b < 7 → a ≠ b → (mz_TStands a).2.1 ≠ (mz_TStands b).2.1 := by decide +kernel
theorem mz_kStands : ∀ k, k < 7 → parseFieldDescriptor (mz_TStands k).2.2.1 = some (mz_yStands k) := by decide +kernel
def mz_RHomes : String := "ValueMill$Homes"
def mz_THomes : u_T := fun k => match k with
  | 0 => ("ValueMill$Homes", "program", "LValueMill$Program;", true)
  | 1 => ("ValueMill$Homes", "flow", "LValueMill$Flow;", true)
  | 2 => ("ValueMill$Homes", "lives", "LValueMill$Lives;", true)
  | 3 => ("ValueMill$Homes", "names", "LValueMill$Names;", true)
  | 4 => ("ValueMill$Homes", "stands", "LValueMill$Stands;", true)
  | 5 => ("ValueMill$Homes", "home", "[I", true)
  | 6 => ("ValueMill$Homes", "cost", "[J", true)
  | 7 => ("ValueMill$Homes", "current", "[I", true)
  | 8 => ("ValueMill$Homes", "holder", "[I", true)
  | 9 => ("ValueMill$Homes", "liveBehind", "[I", true)
  | 10 => ("ValueMill$Homes", "firstSlot", "I", false)
  | 11 => ("ValueMill$Homes", "scratch", "I", false)
  | 12 => ("ValueMill$Homes", "shared", "I", false)
  | _ => ("ValueMill$Homes", "usesSlots", "Z", false)
def mz_yHomes : Nat → FieldType := fun k => match k with
  | 0 => .object "ValueMill$Program"
  | 1 => .object "ValueMill$Flow"
  | 2 => .object "ValueMill$Lives"
  | 3 => .object "ValueMill$Names"
  | 4 => .object "ValueMill$Stands"
  | 5 => .array .int
  | 6 => .array .long
  | 7 => .array .int
  | 8 => .array .int
  | 9 => .array .int
  | 10 => .int
  | 11 => .int
  | 12 => .int
  | _ => .boolean
theorem mz_nHomes : ∀ a, a < 14 → ∀ b, b < 14 → a ≠ b → (mz_THomes a).2.1 ≠ (mz_THomes b).2.1 := by decide +kernel
theorem mz_kHomes : ∀ k, k < 14 → parseFieldDescriptor (mz_THomes k).2.2.1 = some (mz_yHomes k) := by decide +kernel
def mz_RCode : String := "ValueMill$Code"
def mz_TCode : u_T := fun k => match k with
  | 0 => ("ValueMill$Code", "from", "[I", true)
  | 1 => ("ValueMill$Code", "to", "[I", true)
  | 2 => ("ValueMill$Code", "kind", "[I", true)
  | 3 => ("ValueMill$Code", "d", "[I", true)
  | 4 => ("ValueMill$Code", "a", "[I", true)
  | 5 => ("ValueMill$Code", "b", "[I", true)
  | 6 => ("ValueMill$Code", "form", "[I", true)
  | 7 => ("ValueMill$Code", "end", "[I", true)
  | 8 => ("ValueMill$Code", "endIsNumber", "[Z", true)
  | _ => ("ValueMill$Code", "length", "I", false)
def mz_yCode : Nat → FieldType := fun k => match k with
  | 0 => .array .int
  | 1 => .array .int
  | 2 => .array .int
  | 3 => .array .int
  | 4 => .array .int
  | 5 => .array .int
  | 6 => .array .int
  | 7 => .array .int
  | 8 => .array .boolean
  | _ => .int
theorem mz_nCode : ∀ a, a < 10 → ∀ b, b < 10 → a ≠ b → (mz_TCode a).2.1 ≠ (mz_TCode b).2.1 := by decide +kernel
theorem mz_kCode : ∀ k, k < 10 → parseFieldDescriptor (mz_TCode k).2.2.1 = some (mz_yCode k) := by decide +kernel
def mz_RMoves : String := "ValueMill$Moves"
def mz_TMoves : u_T := fun k => match k with
  | 0 => ("ValueMill$Moves", "homes", "LValueMill$Homes;", true)
  | 1 => ("ValueMill$Moves", "code", "LValueMill$Code;", true)
  | 2 => ("ValueMill$Moves", "target", "[I", true)
  | 3 => ("ValueMill$Moves", "source", "[I", true)
  | 4 => ("ValueMill$Moves", "isNumber", "[Z", true)
  | _ => ("ValueMill$Moves", "count", "I", false)
def mz_yMoves : Nat → FieldType := fun k => match k with
  | 0 => .object "ValueMill$Homes"
  | 1 => .object "ValueMill$Code"
  | 2 => .array .int
  | 3 => .array .int
  | 4 => .array .boolean
  | _ => .int
theorem mz_nMoves : ∀ a, a < 6 → ∀ b, b < 6 → a ≠ b → (mz_TMoves a).2.1 ≠ (mz_TMoves b).2.1 := by decide +kernel
theorem mz_kMoves : ∀ k, k < 6 → parseFieldDescriptor (mz_TMoves k).2.2.1 = some (mz_yMoves k) := by decide +kernel
def mz_RWriter : String := "ValueMill$Writer"
def mz_TWriter : u_T := fun k => match k with
  | 0 => ("ValueMill$Writer", "program", "LValueMill$Program;", true)
  | 1 => ("ValueMill$Writer", "flow", "LValueMill$Flow;", true)
  | 2 => ("ValueMill$Writer", "names", "LValueMill$Names;", true)
  | 3 => ("ValueMill$Writer", "stands", "LValueMill$Stands;", true)
  | 4 => ("ValueMill$Writer", "homes", "LValueMill$Homes;", true)
  | 5 => ("ValueMill$Writer", "code", "LValueMill$Code;", true)
  | _ => ("ValueMill$Writer", "moves", "LValueMill$Moves;", true)
def mz_yWriter : Nat → FieldType := fun k => match k with
  | 0 => .object "ValueMill$Program"
  | 1 => .object "ValueMill$Flow"
  | 2 => .object "ValueMill$Names"
  | 3 => .object "ValueMill$Stands"
  | 4 => .object "ValueMill$Homes"
  | 5 => .object "ValueMill$Code"
  | _ => .object "ValueMill$Moves"
theorem mz_nWriter : ∀ a, a < 7 → ∀ b, b < 7 → a ≠ b → (mz_TWriter a).2.1 ≠ (mz_TWriter b).2.1 := by decide +kernel
theorem mz_kWriter : ∀ k, k < 7 → parseFieldDescriptor (mz_TWriter k).2.2.1 = some (mz_yWriter k) := by decide +kernel
def mz_RMachine : String := "ValueMill$Machine"
def mz_TMachine : u_T := fun k => match k with
  | 0 => ("ValueMill$Machine", "cells", "[I", true)
  | 1 => ("ValueMill$Machine", "words", "[I", true)
  | 2 => ("ValueMill$Machine", "log", "[I", true)
  | 3 => ("ValueMill$Machine", "returned", "I", false)
  | 4 => ("ValueMill$Machine", "blocksEntered", "I", false)
  | _ => ("ValueMill$Machine", "callsMade", "I", false)
def mz_yMachine : Nat → FieldType := fun k => match k with
  | 0 => .array .int
  | 1 => .array .int
  | 2 => .array .int
  | 3 => .int
  | 4 => .int
  | _ => .int
theorem mz_nMachine : ∀ a, a < 6 → ∀ b, b < 6 → a ≠ b → (mz_TMachine a).2.1 ≠ (mz_TMachine b).2.1 := by decide +kernel
theorem mz_kMachine : ∀ k, k < 6 → parseFieldDescriptor (mz_TMachine k).2.2.1 = some (mz_yMachine k) := by decide +kernel
def mz_RRef : String := "ValueMillModel"
def mz_TRef : u_T := fun k => match k with
  | 0 => ("ValueMillModel", "blocks", "I", false)
  | 1 => ("ValueMillModel", "counts", "[I", true)
  | 2 => ("ValueMillModel", "ops", "[I", true)
  | 3 => ("ValueMillModel", "endKind", "[I", true)
  | 4 => ("ValueMillModel", "endTemp", "[I", true)
  | 5 => ("ValueMillModel", "first", "[I", true)
  | 6 => ("ValueMillModel", "second", "[I", true)
  | 7 => ("ValueMillModel", "told", "[I", true)
  | 8 => ("ValueMillModel", "hasRun", "Z", false)
  | 9 => ("ValueMillModel", "value", "I", false)
  | 10 => ("ValueMillModel", "entered", "I", false)
  | 11 => ("ValueMillModel", "words", "[I", true)
  | 12 => ("ValueMillModel", "temps", "[I", true)
  | 13 => ("ValueMillModel", "calls", "I", false)
  | 14 => ("ValueMillModel", "callRows", "[I", true)
  | 15 => ("ValueMillModel", "noted", "[I", true)
  | 16 => ("ValueMillModel", "stack", "[I", true)
  | _ => ("ValueMillModel", "gone", "[I", true)
def mz_yRef : Nat → FieldType := fun k => match k with
  | 0 => .int
  | 1 => .array .int
  | 2 => .array .int
  | 3 => .array .int
  | 4 => .array .int
  | 5 => .array .int
  | 6 => .array .int
  | 7 => .array .int
  | 8 => .boolean
  | 9 => .int
  | 10 => .int
  | 11 => .array .int
  | 12 => .array .int
  | 13 => .int
  | 14 => .array .int
  | 15 => .array .int
  | 16 => .array .int
  | _ => .array .int
theorem mz_nRef : ∀ a, a < 18 → ∀ b, b < 18 → a ≠ b → (mz_TRef a).2.1 ≠ (mz_TRef b).2.1 := by decide +kernel
theorem mz_kRef : ∀ k, k < 18 → parseFieldDescriptor (mz_TRef k).2.2.1 = some (mz_yRef k) := by decide +kernel
def mz_CL : List vw_C := [(mz_RMill, mz_TMill, 12), (mz_RProgram, mz_TProgram, 11), (mz_RFlow, mz_TFlow, 11), (mz_RLives, mz_TLives, 6), (mz_RNames, mz_TNames, 7), (mz_RStands, mz_TStands, 7), (mz_RHomes, mz_THomes, 14), (mz_RCode, mz_TCode, 10), (mz_RMoves, mz_TMoves, 6), (mz_RWriter, mz_TWriter, 7), (mz_RMachine, mz_TMachine, 6), (mz_RRef, mz_TRef, 18)]
def mz_len : Nat → Nat := fun k => match k with
  | 12 => 120
  | 13 => 120
  | 14 => 120
  | 15 => 120
  | 16 => 10
  | 17 => 10
  | 18 => 10
  | 19 => 10
  | 20 => 10
  | 21 => 32
  | 22 => 10
  | 23 => 10
  | 24 => 10
  | 25 => 10
  | 26 => 10
  | 27 => 10
  | 28 => 10
  | 29 => 10
  | 30 => 10
  | 31 => 10
  | 32 => 10
  | 33 => 120
  | 34 => 120
  | 35 => 10
  | 36 => 100
  | 37 => 221
  | 38 => 221
  | 39 => 10
  | 40 => 221
  | 41 => 221
  | 42 => 10
  | 43 => 8
  | 44 => 12
  | 45 => 30
  | 46 => 30
  | 47 => 1090
  | 48 => 1090
  | 49 => 1090
  | 50 => 1090
  | 51 => 1090
  | 52 => 10
  | 53 => 10
  | 54 => 10
  | 55 => 10
  | 56 => 10
  | 57 => 230
  | 58 => 32
  | 59 => 600
  | 60 => 10
  | 61 => 480
  | 62 => 10
  | 63 => 10
  | 64 => 10
  | 65 => 10
  | 66 => 32
  | 67 => 32
  | 68 => 10
  | 69 => 600
  | 70 => 10
  | 71 => 10
  | 72 => 10
  | _ => 0
def mz_cel (E : mz_En) (σ : mz_St) (κ : Nat → Int64) : Nat → va_E := fun k => match k with
  | 0 => .inr (0, [.ref (E.2.1 1), .ref (E.2.1 2), .ref (E.2.1 3), .ref (E.2.1 4), .ref (E.2.1 5), .ref (E.2.1 6), .ref (E.2.1 7), .ref (E.2.1 9), .ref (E.2.1 10), .int (σ 1000 0), .int (σ 1001 0), .int (σ 1002 0)])
  | 1 => .inr (1, [.ref (E.2.1 12), .ref (E.2.1 13), .ref (E.2.1 14), .ref (E.2.1 15), .ref (E.2.1 16), .ref (E.2.1 17), .ref (E.2.1 18), .ref (E.2.1 19), .ref (E.2.1 20), .ref (E.2.1 21), .int (σ 1003 0)])
  | 2 => .inr (2, [.ref (E.2.1 1), .ref (E.2.1 22), .ref (E.2.1 23), .ref (E.2.1 24), .ref (E.2.1 25), .ref (E.2.1 26), .ref (E.2.1 27), .ref (E.2.1 28), .int (σ 1004 0), .int (σ 1005 0), .int (σ 1006 0)])
  | 3 => .inr (3, [.ref (E.2.1 1), .ref (E.2.1 2), .ref (E.2.1 29), .ref (E.2.1 30), .ref (E.2.1 31), .ref (E.2.1 32)])
  | 4 => .inr (4, [.ref (E.2.1 1), .ref (E.2.1 2), .ref (E.2.1 3), .ref (E.2.1 33), .ref (E.2.1 34), .ref (E.2.1 35), .ref (E.2.1 36)])
  | 5 => .inr (5, [.ref (E.2.1 1), .ref (E.2.1 2), .ref (E.2.1 3), .ref (E.2.1 4), .ref (E.2.1 37), .ref (E.2.1 38), .ref (E.2.1 39)])
  | 6 => .inr (6, [.ref (E.2.1 1), .ref (E.2.1 2), .ref (E.2.1 3), .ref (E.2.1 4), .ref (E.2.1 5), .ref (E.2.1 40), .ref (E.2.1 41), .ref (E.2.1 42), .ref (E.2.1 43), .ref (E.2.1 44), .int (σ 1007 0), .int (σ 1008 0), .int (σ 1009 0), .int (σ 1010 0)])
  | 7 => .inr (7, [.ref (E.2.1 45), .ref (E.2.1 46), .ref (E.2.1 47), .ref (E.2.1 48), .ref (E.2.1 49), .ref (E.2.1 50), .ref (E.2.1 51), .ref (E.2.1 52), .ref (E.2.1 53), .int (σ 1011 0)])
  | 8 => .inr (8, [.ref (E.2.1 6), .ref (E.2.1 7), .ref (E.2.1 54), .ref (E.2.1 55), .ref (E.2.1 56), .int (σ 1012 0)])
  | 9 => .inr (9, [.ref (E.2.1 1), .ref (E.2.1 2), .ref (E.2.1 4), .ref (E.2.1 5), .ref (E.2.1 6), .ref (E.2.1 7), .ref (E.2.1 8)])
  | 10 => .inr (10, [.ref (E.2.1 57), .ref (E.2.1 58), .ref (E.2.1 59), .int (σ 1013 0), .int (σ 1014 0), .int (σ 1015 0)])
  | 11 => .inr (11, [.int (σ 1016 0), .ref (E.2.1 60), .ref (E.2.1 61), .ref (E.2.1 62), .ref (E.2.1 63), .ref (E.2.1 64), .ref (E.2.1 65), .ref (E.2.1 66), .int (σ 1017 0), .int (σ 1018 0), .int (σ 1019 0), .ref (E.2.1 67), .ref (E.2.1 68), .int (σ 1020 0), .ref (E.2.1 69), .ref (E.2.1 70), .ref (E.2.1 71), .ref (E.2.1 72)])
  | 41 => .inl (E.2.2.2.1, 221, .inr (.inl κ))
  | 53 => .inl (E.2.2.2.2, 10, .inl (σ 53))
  | 56 => .inl (E.2.2.2.2, 10, .inl (σ 56))
  | k => .inl (E.2.2.1, mz_len k, .inl (σ k))
def mz_NC : Nat := 73
