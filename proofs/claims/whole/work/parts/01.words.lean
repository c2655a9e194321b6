/-- a private method of a class that the tables say can be made, by its rows of tables_1 -/
def lw_okq (q : MethodName × Nat) : Prop := (q.1.cls ≠ "java/lang/invoke/MethodHandle" ∧ q.1.cls ≠ "java/lang/invoke/VarHandle") ∧ Cond.instantiable q.1.cls q.2 ∈ tables_1 ∧ Cond.privateMethod q.1 ∈ tables_1 ∧ Cond.instanceMethod q.1 ∈ tables_1
theorem mt {a w : Cond} {l : List Cond} (h : w ∈ l) : w ∈ a :: l := List.mem_cons_of_mem _ h
theorem mh {w : Cond} {l : List Cond} : w ∈ w :: l := List.mem_cons_self
theorem m9 {a b c d e f g h i w : Cond} {l : List Cond} (q : w ∈ l) : w ∈ a :: b :: c :: d :: e :: f :: g :: h :: i :: l := mt (mt (mt (mt (mt (mt (mt (mt (mt q))))))))
theorem m81 {a1 a2 a3 a4 a5 a6 a7 a8 a9 b1 b2 b3 b4 b5 b6 b7 b8 b9 c1 c2 c3 c4 c5 c6 c7 c8 c9 w : Cond} {l : List Cond} (q : w ∈ l) : w ∈ a1 :: a2 :: a3 :: a4 :: a5 :: a6 :: a7 :: a8 :: a9 :: b1 :: b2 :: b3 :: b4 :: b5 :: b6 :: b7 :: b8 :: b9 :: c1 :: c2 :: c3 :: c4 :: c5 :: c6 :: c7 :: c8 :: c9 :: l := m9 (m9 (m9 q))
theorem it1 {w : Cond} (h : w ∈ tables_1_1) : w ∈ tables_1 := List.mem_append_left _ h
theorem it2 {w : Cond} (h : w ∈ tables_1_2) : w ∈ tables_1 := List.mem_append_right _ (List.mem_append_left _ h)
theorem it3 {w : Cond} (h : w ∈ tables_1_3) : w ∈ tables_1 := List.mem_append_right _ (List.mem_append_right _ (List.mem_append_left _ h))
theorem it4 {w : Cond} (h : w ∈ tables_1_4) : w ∈ tables_1 := List.mem_append_right _ (List.mem_append_right _ (List.mem_append_right _ (List.mem_append_left _ h)))
theorem it5 {w : Cond} (h : w ∈ tables_1_5) : w ∈ tables_1 := List.mem_append_right _ (List.mem_append_right _ (List.mem_append_right _ (List.mem_append_right _ (List.mem_append_left _ h))))
theorem it6 {w : Cond} (h : w ∈ tables_1_6) : w ∈ tables_1 := List.mem_append_right _ (List.mem_append_right _ (List.mem_append_right _ (List.mem_append_right _ (List.mem_append_right _ (List.mem_append_left _ h)))))
theorem it7 {w : Cond} (h : w ∈ tables_1_7) : w ∈ tables_1 := List.mem_append_right _ (List.mem_append_right _ (List.mem_append_right _ (List.mem_append_right _ (List.mem_append_right _ (List.mem_append_right _ (List.mem_append_left _ h))))))
theorem it8 {w : Cond} (h : w ∈ tables_1_8) : w ∈ tables_1 := List.mem_append_right _ (List.mem_append_right _ (List.mem_append_right _ (List.mem_append_right _ (List.mem_append_right _ (List.mem_append_right _ (List.mem_append_right _ h))))))
def RX0 : String := "TickPools$Curve"
def RX1 : String := "TickPools$Finder"
def RX2 : String := "TickPools$Market"
def RX3 : String := "TickPools$MarketReader"
def RX4 : String := "TickPools$Pool"
def RX5 : String := "TickPools$Runner"
def RX6 : String := "TickPools$Script"
def RX7 : String := "TickPools$Stake"
def RX8 : String := "TickPools$Step"
def RX9 : String := "TickPools$Tape"
def RX10 : String := "TickPools$Trade"
def RX11 : String := "TickPools"
def RX12 : String := "TickPoolsModel"
def TX1 : u_T := fun k => match k with
  | 0 => ("TickPools$Finder", "bestGain", "J", false)
  | 1 => ("TickPools$Finder", "bestAmount", "I", false)
  | 2 => ("TickPools$Finder", "bestLength", "I", false)
  | 3 => ("TickPools$Finder", "trade", "LTickPools$Trade;", true)
  | 4 => ("TickPools$Finder", "best", "[I", true)
  | 5 => ("TickPools$Finder", "row", "[I", true)
  | 6 => ("TickPools$Finder", "thing", "[I", true)
  | 7 => ("TickPools$Finder", "amount", "[J", true)
  | _ => ("TickPools$Finder", "next", "[I", true)
def tyX1 : Nat → FieldType := fun k => match k with
  | 0 => .long
  | 1 => .int
  | 2 => .int
  | 3 => .object "TickPools$Trade"
  | 4 => .array .int
  | 5 => .array .int
  | 6 => .array .int
  | 7 => .array .long
  | _ => .array .int
theorem nmX1 : ∀ a, a < 9 → ∀ b, b < 9 → a ≠ b → (TX1 a).2.1 ≠ (TX1 b).2.1 := by decide +kernel
theorem tyX1_ok : ∀ k, k < 9 → parseFieldDescriptor (TX1 k).2.2.1 = some (tyX1 k) := by decide +kernel
def TX2 : u_T := fun k => match k with
  | 0 => ("TickPools$Market", "things", "I", false)
  | 1 => ("TickPools$Market", "people", "I", false)
  | 2 => ("TickPools$Market", "pools", "I", false)
  | 3 => ("TickPools$Market", "stakes", "I", false)
  | 4 => ("TickPools$Market", "time", "I", false)
  | 5 => ("TickPools$Market", "crossed", "I", false)
  | 6 => ("TickPools$Market", "purses", "[I", true)
  | 7 => ("TickPools$Market", "poolRow", "[LTickPools$Pool;", true)
  | _ => ("TickPools$Market", "stakeRow", "[LTickPools$Stake;", true)
def tyX2 : Nat → FieldType := fun k => match k with
  | 0 => .int
  | 1 => .int
  | 2 => .int
  | 3 => .int
  | 4 => .int
  | 5 => .int
  | 6 => .array .int
  | 7 => .array (.object "TickPools$Pool")
  | _ => .array (.object "TickPools$Stake")
theorem nmX2 : ∀ a, a < 9 → ∀ b, b < 9 → a ≠ b → (TX2 a).2.1 ≠ (TX2 b).2.1 := by decide +kernel
theorem tyX2_ok : ∀ k, k < 9 → parseFieldDescriptor (TX2 k).2.2.1 = some (tyX2 k) := by decide +kernel
def TX3 : u_T := fun k => match k with
  | 0 => ("TickPools$MarketReader", "tape", "LTickPools$Tape;", true)
  | _ => ("TickPools$MarketReader", "market", "LTickPools$Market;", true)
def tyX3 : Nat → FieldType := fun k => match k with
  | 0 => .object "TickPools$Tape"
  | _ => .object "TickPools$Market"
theorem nmX3 : ∀ a, a < 2 → ∀ b, b < 2 → a ≠ b → (TX3 a).2.1 ≠ (TX3 b).2.1 := by decide +kernel
theorem tyX3_ok : ∀ k, k < 2 → parseFieldDescriptor (TX3 k).2.2.1 = some (tyX3 k) := by decide +kernel
def TX4 : u_T := fun k => match k with
  | 0 => ("TickPools$Pool", "first", "I", false)
  | 1 => ("TickPools$Pool", "second", "I", false)
  | 2 => ("TickPools$Pool", "fee", "I", false)
  | 3 => ("TickPools$Pool", "cut", "I", false)
  | 4 => ("TickPools$Pool", "spacing", "I", false)
  | 5 => ("TickPools$Pool", "root", "I", false)
  | 6 => ("TickPools$Pool", "zone", "I", false)
  | 7 => ("TickPools$Pool", "marks", "I", false)
  | 8 => ("TickPools$Pool", "held", "[I", true)
  | 9 => ("TickPools$Pool", "house", "[I", true)
  | 10 => ("TickPools$Pool", "markTime", "[I", true)
  | _ => ("TickPools$Pool", "markSum", "[I", true)
def tyX4 : Nat → FieldType := fun k => match k with
  | 0 => .int
  | 1 => .int
  | 2 => .int
  | 3 => .int
  | 4 => .int
  | 5 => .int
  | 6 => .int
  | 7 => .int
  | 8 => .array .int
  | 9 => .array .int
  | 10 => .array .int
  | _ => .array .int
theorem nmX4 : ∀ a, a < 12 → ∀ b, b < 12 → a ≠ b → (TX4 a).2.1 ≠ (TX4 b).2.1 := by decide +kernel
theorem tyX4_ok : ∀ k, k < 12 → parseFieldDescriptor (TX4 k).2.2.1 = some (tyX4 k) := by decide +kernel
def TX5 : u_T := fun k => match k with
  | 0 => ("TickPools$Runner", "done", "I", false)
  | 1 => ("TickPools$Runner", "failure", "I", false)
  | 2 => ("TickPools$Runner", "market", "LTickPools$Market;", true)
  | 3 => ("TickPools$Runner", "script", "LTickPools$Script;", true)
  | 4 => ("TickPools$Runner", "trade", "LTickPools$Trade;", true)
  | 5 => ("TickPools$Runner", "person", "I", false)
  | 6 => ("TickPools$Runner", "at", "I", false)
  | 7 => ("TickPools$Runner", "deep", "I", false)
  | 8 => ("TickPools$Runner", "got", "J", false)
  | 9 => ("TickPools$Runner", "open", "[I", true)
  | 10 => ("TickPools$Runner", "rounds", "[I", true)
  | 11 => ("TickPools$Runner", "lent", "[I", true)
  | _ => ("TickPools$Runner", "locked", "[Z", true)
def tyX5 : Nat → FieldType := fun k => match k with
  | 0 => .int
  | 1 => .int
  | 2 => .object "TickPools$Market"
  | 3 => .object "TickPools$Script"
  | 4 => .object "TickPools$Trade"
  | 5 => .int
  | 6 => .int
  | 7 => .int
  | 8 => .long
  | 9 => .array .int
  | 10 => .array .int
  | 11 => .array .int
  | _ => .array .boolean
theorem nmX5 : ∀ a, a < 13 → ∀ b, b < 13 → a ≠ b → (TX5 a).2.1 ≠ (TX5 b).2.1 := by decide +kernel
theorem tyX5_ok : ∀ k, k < 13 → parseFieldDescriptor (TX5 k).2.2.1 = some (tyX5 k) := by decide +kernel
def TX6 : u_T := fun k => match k with
  | 0 => ("TickPools$Script", "size", "I", false)
  | 1 => ("TickPools$Script", "tape", "LTickPools$Tape;", true)
  | 2 => ("TickPools$Script", "steps", "[LTickPools$Step;", true)
  | 3 => ("TickPools$Script", "open", "[I", true)
  | _ => ("TickPools$Script", "deep", "I", false)
def tyX6 : Nat → FieldType := fun k => match k with
  | 0 => .int
  | 1 => .object "TickPools$Tape"
  | 2 => .array (.object "TickPools$Step")
  | 3 => .array .int
  | _ => .int
theorem nmX6 : ∀ a, a < 5 → ∀ b, b < 5 → a ≠ b → (TX6 a).2.1 ≠ (TX6 b).2.1 := by decide +kernel
theorem tyX6_ok : ∀ k, k < 5 → parseFieldDescriptor (TX6 k).2.2.1 = some (tyX6 k) := by decide +kernel
def TX7 : u_T := fun k => match k with
  | 0 => ("TickPools$Stake", "person", "I", false)
  | 1 => ("TickPools$Stake", "pool", "I", false)
  | 2 => ("TickPools$Stake", "low", "I", false)
  | 3 => ("TickPools$Stake", "high", "I", false)
  | 4 => ("TickPools$Stake", "auto", "I", false)
  | 5 => ("TickPools$Stake", "liquidity", "I", false)
  | 6 => ("TickPools$Stake", "gain", "[J", true)
  | _ => ("TickPools$Stake", "debt", "[J", true)
def tyX7 : Nat → FieldType := fun k => match k with
  | 0 => .int
  | 1 => .int
  | 2 => .int
  | 3 => .int
  | 4 => .int
  | 5 => .int
  | 6 => .array .long
  | _ => .array .long
theorem nmX7 : ∀ a, a < 8 → ∀ b, b < 8 → a ≠ b → (TX7 a).2.1 ≠ (TX7 b).2.1 := by decide +kernel
theorem tyX7_ok : ∀ k, k < 8 → parseFieldDescriptor (TX7 k).2.2.1 = some (tyX7 k) := by decide +kernel
def TX8 : u_T := fun k => match k with
  | 0 => ("TickPools$Step", "kind", "I", false)
  | 1 => ("TickPools$Step", "place", "I", false)
  | 2 => ("TickPools$Step", "pool", "I", false)
  | 3 => ("TickPools$Step", "side", "I", false)
  | 4 => ("TickPools$Step", "low", "I", false)
  | 5 => ("TickPools$Step", "high", "I", false)
  | 6 => ("TickPools$Step", "thing", "I", false)
  | 7 => ("TickPools$Step", "amount", "I", false)
  | 8 => ("TickPools$Step", "much", "I", false)
  | _ => ("TickPools$Step", "after", "I", false)
def tyX8 : Nat → FieldType := fun k => match k with
  | 0 => .int
  | 1 => .int
  | 2 => .int
  | 3 => .int
  | 4 => .int
  | 5 => .int
  | 6 => .int
  | 7 => .int
  | 8 => .int
  | _ => .int
theorem nmX8 : ∀ a, a < 10 → ∀ b, b < 10 → a ≠ b → (TX8 a).2.1 ≠ (TX8 b).2.1 := by decide +kernel
theorem tyX8_ok : ∀ k, k < 10 → parseFieldDescriptor (TX8 k).2.2.1 = some (tyX8 k) := by decide +kernel
def TX9 : u_T := fun k => match k with
  | 0 => ("TickPools$Tape", "length", "I", false)
  | 1 => ("TickPools$Tape", "fault", "I", false)
  | 2 => ("TickPools$Tape", "value", "I", false)
  | 3 => ("TickPools$Tape", "wordStart", "I", false)
  | 4 => ("TickPools$Tape", "wordEnd", "I", false)
  | 5 => ("TickPools$Tape", "at", "I", false)
  | _ => ("TickPools$Tape", "bytes", "[B", true)
def tyX9 : Nat → FieldType := fun k => match k with
  | 0 => .int
  | 1 => .int
  | 2 => .int
  | 3 => .int
  | 4 => .int
  | 5 => .int
  | _ => .array .byte
theorem nmX9 : ∀ a, a < 7 → ∀ b, b < 7 → a ≠ b → (TX9 a).2.1 ≠ (TX9 b).2.1 := by decide +kernel
theorem tyX9_ok : ∀ k, k < 7 → parseFieldDescriptor (TX9 k).2.2.1 = some (tyX9 k) := by decide +kernel
def TX10 : u_T := fun k => match k with
  | 0 => ("TickPools$Trade", "market", "LTickPools$Market;", false)
  | 1 => ("TickPools$Trade", "pool", "LTickPools$Pool;", false)
  | 2 => ("TickPools$Trade", "poolNumber", "I", false)
  | 3 => ("TickPools$Trade", "side", "I", false)
  | 4 => ("TickPools$Trade", "real", "Z", false)
  | 5 => ("TickPools$Trade", "root", "I", false)
  | 6 => ("TickPools$Trade", "atEnd", "Z", false)
  | 7 => ("TickPools$Trade", "crossedTick", "I", false)
  | 8 => ("TickPools$Trade", "zone", "I", false)
  | 9 => ("TickPools$Trade", "crossed", "I", false)
  | 10 => ("TickPools$Trade", "left", "J", false)
  | 11 => ("TickPools$Trade", "gave", "J", false)
  | 12 => ("TickPools$Trade", "paid", "J", false)
  | _ => ("TickPools$Trade", "fees", "J", false)
def tyX10 : Nat → FieldType := fun k => match k with
  | 0 => .object "TickPools$Market"
  | 1 => .object "TickPools$Pool"
  | 2 => .int
  | 3 => .int
  | 4 => .boolean
  | 5 => .int
  | 6 => .boolean
  | 7 => .int
  | 8 => .int
  | 9 => .int
  | 10 => .long
  | 11 => .long
  | 12 => .long
  | _ => .long
theorem nmX10 : ∀ a, a < 14 → ∀ b, b < 14 → a ≠ b → (TX10 a).2.1 ≠ (TX10 b).2.1 := by decide +kernel
theorem tyX10_ok : ∀ k, k < 14 → parseFieldDescriptor (TX10 k).2.2.1 = some (tyX10 k) := by decide +kernel
def TX11 : u_T := fun k => match k with
  | 0 => ("TickPools", "tape", "LTickPools$Tape;", true)
  | 1 => ("TickPools", "live", "LTickPools$Market;", true)
  | 2 => ("TickPools", "spare", "LTickPools$Market;", true)
  | 3 => ("TickPools", "marketReader", "LTickPools$MarketReader;", true)
  | 4 => ("TickPools", "script", "LTickPools$Script;", true)
  | 5 => ("TickPools", "runner", "LTickPools$Runner;", true)
  | 6 => ("TickPools", "trade", "LTickPools$Trade;", true)
  | _ => ("TickPools", "finder", "LTickPools$Finder;", true)
def tyX11 : Nat → FieldType := fun k => match k with
  | 0 => .object "TickPools$Tape"
  | 1 => .object "TickPools$Market"
  | 2 => .object "TickPools$Market"
  | 3 => .object "TickPools$MarketReader"
  | 4 => .object "TickPools$Script"
  | 5 => .object "TickPools$Runner"
  | 6 => .object "TickPools$Trade"
  | _ => .object "TickPools$Finder"
theorem nmX11 : ∀ a, a < 8 → ∀ b, b < 8 → a ≠ b → (TX11 a).2.1 ≠ (TX11 b).2.1 := by decide +kernel
theorem tyX11_ok : ∀ k, k < 8 → parseFieldDescriptor (TX11 k).2.2.1 = some (tyX11 k) := by decide +kernel
def TX12 : u_T := fun k => match k with
  | 0 => ("TickPoolsModel", "rootOf", "[J", true)
  | 1 => ("TickPoolsModel", "things", "I", false)
  | 2 => ("TickPoolsModel", "people", "I", false)
  | 3 => ("TickPoolsModel", "pools", "I", false)
  | 4 => ("TickPoolsModel", "told", "[I", true)
  | 5 => ("TickPoolsModel", "now", "[J", true)
  | 6 => ("TickPoolsModel", "was", "[J", true)
  | 7 => ("TickPoolsModel", "tape", "[B", true)
  | 8 => ("TickPoolsModel", "taped", "I", false)
  | 9 => ("TickPoolsModel", "at", "I", false)
  | 10 => ("TickPoolsModel", "wrong", "I", false)
  | 11 => ("TickPoolsModel", "number", "I", false)
  | 12 => ("TickPoolsModel", "marketWord", "J", true)
  | 13 => ("TickPoolsModel", "poolWord", "J", true)
  | 14 => ("TickPoolsModel", "purseWord", "J", true)
  | 15 => ("TickPoolsModel", "inWord", "J", true)
  | 16 => ("TickPoolsModel", "outWord", "J", true)
  | 17 => ("TickPoolsModel", "addWord", "J", true)
  | 18 => ("TickPoolsModel", "dropWord", "J", true)
  | 19 => ("TickPoolsModel", "leastWord", "J", true)
  | 20 => ("TickPoolsModel", "lendWord", "J", true)
  | 21 => ("TickPoolsModel", "timesWord", "J", true)
  | 22 => ("TickPoolsModel", "allWord", "J", true)
  | 23 => ("TickPoolsModel", "gotWord", "J", true)
  | 24 => ("TickPoolsModel", "readThings", "I", false)
  | 25 => ("TickPoolsModel", "readPeople", "I", false)
  | 26 => ("TickPoolsModel", "readPools", "I", false)
  | 27 => ("TickPoolsModel", "readPool", "[I", true)
  | 28 => ("TickPoolsModel", "readPurse", "[I", true)
  | 29 => ("TickPoolsModel", "left", "J", false)
  | 30 => ("TickPoolsModel", "came", "J", false)
  | 31 => ("TickPoolsModel", "gone", "J", false)
  | 32 => ("TickPoolsModel", "fees", "J", false)
  | 33 => ("TickPoolsModel", "crossed", "I", false)
  | 34 => ("TickPoolsModel", "stepMany", "I", false)
  | 35 => ("TickPoolsModel", "kind", "[I", true)
  | 36 => ("TickPoolsModel", "placeOf", "[I", true)
  | 37 => ("TickPoolsModel", "numbers", "[I", true)
  | 38 => ("TickPoolsModel", "muchBy", "[I", true)
  | 39 => ("TickPoolsModel", "behind", "[I", true)
  | 40 => ("TickPoolsModel", "stepWords", "[J", true)
  | 41 => ("TickPoolsModel", "open", "[I", true)
  | 42 => ("TickPoolsModel", "opened", "I", false)
  | 43 => ("TickPoolsModel", "who", "I", false)
  | 44 => ("TickPoolsModel", "doneMany", "I", false)
  | 45 => ("TickPoolsModel", "got", "J", false)
  | 46 => ("TickPoolsModel", "locked", "I", false)
  | 47 => ("TickPoolsModel", "within", "[I", true)
  | 48 => ("TickPoolsModel", "turns", "[I", true)
  | 49 => ("TickPoolsModel", "lent", "[J", true)
  | 50 => ("TickPoolsModel", "deep", "I", false)
  | 51 => ("TickPoolsModel", "best", "J", false)
  | 52 => ("TickPoolsModel", "bestRow", "I", false)
  | 53 => ("TickPoolsModel", "partsAll", "J", false)
  | _ => ("TickPoolsModel", "others", "I", false)
def tyX12 : Nat → FieldType := fun k => match k with
  | 0 => .array .long
  | 1 => .int
  | 2 => .int
  | 3 => .int
  | 4 => .array .int
  | 5 => .array .long
  | 6 => .array .long
  | 7 => .array .byte
  | 8 => .int
  | 9 => .int
  | 10 => .int
  | 11 => .int
  | 12 => .long
  | 13 => .long
  | 14 => .long
  | 15 => .long
  | 16 => .long
  | 17 => .long
  | 18 => .long
  | 19 => .long
  | 20 => .long
  | 21 => .long
  | 22 => .long
  | 23 => .long
  | 24 => .int
  | 25 => .int
  | 26 => .int
  | 27 => .array .int
  | 28 => .array .int
  | 29 => .long
  | 30 => .long
  | 31 => .long
  | 32 => .long
  | 33 => .int
  | 34 => .int
  | 35 => .array .int
  | 36 => .array .int
  | 37 => .array .int
  | 38 => .array .int
  | 39 => .array .int
  | 40 => .array .long
  | 41 => .array .int
  | 42 => .int
  | 43 => .int
  | 44 => .int
  | 45 => .long
  | 46 => .int
  | 47 => .array .int
  | 48 => .array .int
  | 49 => .array .long
  | 50 => .int
  | 51 => .long
  | 52 => .int
  | 53 => .long
  | _ => .int
theorem nmX12 : ∀ a, a < 55 → ∀ b, b < 55 → a ≠ b → (TX12 a).2.1 ≠ (TX12 b).2.1 := by decide +kernel
theorem tyX12_ok : ∀ k, k < 55 → parseFieldDescriptor (TX12 k).2.2.1 = some (tyX12 k) := by decide +kernel
abbrev cX0_rootAt : ByteArray := prog_2_method_2_code
def yX0_rootAt : MethodName := ⟨RX0, "rootAt", "(I)I"⟩
abbrev cX0_zoneOf : ByteArray := prog_2_method_3_code
def yX0_zoneOf : MethodName := ⟨RX0, "zoneOf", "(I)I"⟩
abbrev cX0_startRoot : ByteArray := prog_2_method_4_code
def yX0_startRoot : MethodName := ⟨RX0, "startRoot", "(II)I"⟩
abbrev cX0_between : ByteArray := prog_2_method_5_code
def yX0_between : MethodName := ⟨RX0, "between", "(ZJJJZ)J"⟩
abbrev cX0_upwards : ByteArray := prog_2_method_6_code
def yX0_upwards : MethodName := ⟨RX0, "upwards", "(JJ)J"⟩
abbrev cX0_rootBehindIn : ByteArray := prog_2_method_7_code
def yX0_rootBehindIn : MethodName := ⟨RX0, "rootBehindIn", "(IJJJ)I"⟩
abbrev cX0_rootBehindOut : ByteArray := prog_2_method_8_code
def yX0_rootBehindOut : MethodName := ⟨RX0, "rootBehindOut", "(IJJJ)I"⟩
abbrev cX1_init : ByteArray := prog_3_method_1_code
def yX1_init : MethodName := ⟨RX1, "<init>", "(LTickPools$Trade;)V"⟩
abbrev cX1_bestPool : ByteArray := prog_3_method_2_code
def yX1_bestPool : MethodName := ⟨RX1, "bestPool", "(I)I"⟩
abbrev cX1_bestCode : ByteArray := prog_3_method_3_code
def yX1_bestCode : MethodName := ⟨RX1, "bestCode", "()I"⟩
abbrev cX1_forget : ByteArray := prog_3_method_4_code
def yX1_forget : MethodName := ⟨RX1, "forget", "(I)V"⟩
abbrev cX1_search : ByteArray := prog_3_method_5_code
def yX1_search : MethodName := ⟨RX1, "search", "(LTickPools$Market;III)V"⟩
abbrev cX1_otherThing : ByteArray := prog_3_method_6_code
def yX1_otherThing : MethodName := ⟨RX1, "otherThing", "(LTickPools$Market;II)I"⟩
abbrev cX1_wasAt : ByteArray := prog_3_method_7_code
def yX1_wasAt : MethodName := ⟨RX1, "wasAt", "(II)Z"⟩
abbrev cX1_trial : ByteArray := prog_3_method_8_code
def yX1_trial : MethodName := ⟨RX1, "trial", "(LTickPools$Market;II)J"⟩
abbrev cX1_consider : ByteArray := prog_3_method_9_code
def yX1_consider : MethodName := ⟨RX1, "consider", "(IJI)V"⟩
abbrev cX1_follow : ByteArray := prog_3_method_10_code
def yX1_follow : MethodName := ⟨RX1, "follow", "(LTickPools$Market;II)V"⟩
abbrev cX2_init : ByteArray := prog_4_method_1_code
def yX2_init : MethodName := ⟨RX2, "<init>", "()V"⟩
abbrev cX2_clear : ByteArray := prog_4_method_2_code
def yX2_clear : MethodName := ⟨RX2, "clear", "()V"⟩
abbrev cX2_copyFrom : ByteArray := prog_4_method_3_code
def yX2_copyFrom : MethodName := ⟨RX2, "copyFrom", "(LTickPools$Market;)V"⟩
abbrev cX2_hasThing : ByteArray := prog_4_method_4_code
def yX2_hasThing : MethodName := ⟨RX2, "hasThing", "(I)Z"⟩
abbrev cX2_hasPerson : ByteArray := prog_4_method_5_code
def yX2_hasPerson : MethodName := ⟨RX2, "hasPerson", "(I)Z"⟩
abbrev cX2_poolAt : ByteArray := prog_4_method_6_code
def yX2_poolAt : MethodName := ⟨RX2, "poolAt", "(I)LTickPools$Pool;"⟩
abbrev cX2_stakeAt : ByteArray := prog_4_method_7_code
def yX2_stakeAt : MethodName := ⟨RX2, "stakeAt", "(I)LTickPools$Stake;"⟩
abbrev cX2_newPool : ByteArray := prog_4_method_8_code
def yX2_newPool : MethodName := ⟨RX2, "newPool", "()LTickPools$Pool;"⟩
abbrev cX2_purseOf : ByteArray := prog_4_method_9_code
def yX2_purseOf : MethodName := ⟨RX2, "purseOf", "(II)I"⟩
abbrev cX2_putIntoPurse : ByteArray := prog_4_method_10_code
def yX2_putIntoPurse : MethodName := ⟨RX2, "putIntoPurse", "(III)V"⟩
abbrev cX2_payOut : ByteArray := prog_4_method_11_code
def yX2_payOut : MethodName := ⟨RX2, "payOut", "(LTickPools$Pool;III)V"⟩
abbrev cX2_allOf : ByteArray := prog_4_method_12_code
def yX2_allOf : MethodName := ⟨RX2, "allOf", "(I)I"⟩
abbrev cX2_liquidityAt : ByteArray := prog_4_method_13_code
def yX2_liquidityAt : MethodName := ⟨RX2, "liquidityAt", "(II)J"⟩
abbrev cX2_nextEdge : ByteArray := prog_4_method_14_code
def yX2_nextEdge : MethodName := ⟨RX2, "nextEdge", "(III)I"⟩
abbrev cX2_nearer : ByteArray := prog_4_method_15_code
def yX2_nearer : MethodName := ⟨RX2, "nearer", "(IIII)I"⟩
abbrev cX2_overIn : ByteArray := prog_4_method_16_code
def yX2_overIn : MethodName := ⟨RX2, "overIn", "(II)J"⟩
abbrev cX2_findStake : ByteArray := prog_4_method_17_code
def yX2_findStake : MethodName := ⟨RX2, "findStake", "(IIIII)I"⟩
abbrev cX2_addStake : ByteArray := prog_4_method_18_code
def yX2_addStake : MethodName := ⟨RX2, "addStake", "(IIIIII)I"⟩
abbrev cX2_isRange : ByteArray := prog_4_method_19_code
def yX2_isRange : MethodName := ⟨RX2, "isRange", "(LTickPools$Pool;II)Z"⟩
abbrev cX2_withdraw : ByteArray := prog_4_method_20_code
def yX2_withdraw : MethodName := ⟨RX2, "withdraw", "(II)V"⟩
abbrev cX2_remove : ByteArray := prog_4_method_21_code
def yX2_remove : MethodName := ⟨RX2, "remove", "(I)V"⟩
abbrev cX2_dropAt : ByteArray := prog_4_method_22_code
def yX2_dropAt : MethodName := ⟨RX2, "dropAt", "(III)V"⟩
abbrev cX2_share : ByteArray := prog_4_method_23_code
def yX2_share : MethodName := ⟨RX2, "share", "(IIJ)V"⟩
abbrev cX3_init : ByteArray := prog_5_method_1_code
def yX3_init : MethodName := ⟨RX3, "<init>", "(LTickPools$Tape;LTickPools$Market;)V"⟩
abbrev cX3_read : ByteArray := prog_5_method_2_code
def yX3_read : MethodName := ⟨RX3, "read", "()Z"⟩
abbrev cX3_readClause : ByteArray := prog_5_method_3_code
def yX3_readClause : MethodName := ⟨RX3, "readClause", "(I)Z"⟩
abbrev cX3_readSizes : ByteArray := prog_5_method_4_code
def yX3_readSizes : MethodName := ⟨RX3, "readSizes", "()Z"⟩
abbrev cX3_readPool : ByteArray := prog_5_method_5_code
def yX3_readPool : MethodName := ⟨RX3, "readPool", "()Z"⟩
abbrev cX3_readPurse : ByteArray := prog_5_method_6_code
def yX3_readPurse : MethodName := ⟨RX3, "readPurse", "()Z"⟩
abbrev cX4_init : ByteArray := prog_6_method_1_code
def yX4_init : MethodName := ⟨RX4, "<init>", "()V"⟩
abbrev cX4_open : ByteArray := prog_6_method_2_code
def yX4_open : MethodName := ⟨RX4, "open", "(II)V"⟩
abbrev cX4_copyFrom : ByteArray := prog_6_method_3_code
def yX4_copyFrom : MethodName := ⟨RX4, "copyFrom", "(LTickPools$Pool;)V"⟩
abbrev cX4_thingOn : ByteArray := prog_6_method_4_code
def yX4_thingOn : MethodName := ⟨RX4, "thingOn", "(I)I"⟩
abbrev cX4_heldOn : ByteArray := prog_6_method_5_code
def yX4_heldOn : MethodName := ⟨RX4, "heldOn", "(I)I"⟩
abbrev cX4_sideOf : ByteArray := prog_6_method_6_code
def yX4_sideOf : MethodName := ⟨RX4, "sideOf", "(I)I"⟩
abbrev cX4_firstMark : ByteArray := prog_6_method_7_code
def yX4_firstMark : MethodName := ⟨RX4, "firstMark", "()I"⟩
abbrev cX4_mark : ByteArray := prog_6_method_8_code
def yX4_mark : MethodName := ⟨RX4, "mark", "(I)V"⟩
abbrev cX4_sumAt : ByteArray := prog_6_method_9_code
def yX4_sumAt : MethodName := ⟨RX4, "sumAt", "(I)I"⟩
abbrev cX5_init : ByteArray := prog_7_method_1_code
def yX5_init : MethodName := ⟨RX5, "<init>", "(LTickPools$Market;LTickPools$Script;LTickPools$Trade;)V"⟩
abbrev cX5_start : ByteArray := prog_7_method_2_code
def yX5_start : MethodName := ⟨RX5, "start", "(I)V"⟩
abbrev cX5_goesOn : ByteArray := prog_7_method_3_code
def yX5_goesOn : MethodName := ⟨RX5, "goesOn", "()Z"⟩
abbrev cX5_turn : ByteArray := prog_7_method_4_code
def yX5_turn : MethodName := ⟨RX5, "turn", "()V"⟩
abbrev cX5_fail : ByteArray := prog_7_method_5_code
def yX5_fail : MethodName := ⟨RX5, "fail", "(LTickPools$Step;I)V"⟩
abbrev cX5_isLocked : ByteArray := prog_7_method_6_code
def yX5_isLocked : MethodName := ⟨RX5, "isLocked", "(I)Z"⟩
abbrev cX5_setLocked : ByteArray := prog_7_method_7_code
def yX5_setLocked : MethodName := ⟨RX5, "setLocked", "(IZ)V"⟩
abbrev cX5_muchOf : ByteArray := prog_7_method_8_code
def yX5_muchOf : MethodName := ⟨RX5, "muchOf", "(LTickPools$Step;I)J"⟩
abbrev cX5_doIn : ByteArray := prog_7_method_9_code
def yX5_doIn : MethodName := ⟨RX5, "doIn", "(LTickPools$Step;)Z"⟩
abbrev cX5_doOut : ByteArray := prog_7_method_10_code
def yX5_doOut : MethodName := ⟨RX5, "doOut", "(LTickPools$Step;)Z"⟩
abbrev cX5_doDrop : ByteArray := prog_7_method_11_code
def yX5_doDrop : MethodName := ⟨RX5, "doDrop", "(LTickPools$Step;)Z"⟩
abbrev cX5_doLend : ByteArray := prog_7_method_12_code
def yX5_doLend : MethodName := ⟨RX5, "doLend", "(LTickPools$Step;)Z"⟩
abbrev cX5_doTimes : ByteArray := prog_7_method_13_code
def yX5_doTimes : MethodName := ⟨RX5, "doTimes", "(LTickPools$Step;)Z"⟩
abbrev cX5_canOpen : ByteArray := prog_7_method_14_code
def yX5_canOpen : MethodName := ⟨RX5, "canOpen", "()Z"⟩
abbrev cX5_openBracket : ByteArray := prog_7_method_15_code
def yX5_openBracket : MethodName := ⟨RX5, "openBracket", "(II)V"⟩
abbrev cX5_closeBracket : ByteArray := prog_7_method_16_code
def yX5_closeBracket : MethodName := ⟨RX5, "closeBracket", "(LTickPools$Step;)V"⟩
abbrev cX5_giveBack : ByteArray := prog_7_method_17_code
def yX5_giveBack : MethodName := ⟨RX5, "giveBack", "(LTickPools$Step;I)V"⟩
abbrev cX6_init : ByteArray := prog_8_method_1_code
def yX6_init : MethodName := ⟨RX6, "<init>", "(LTickPools$Tape;)V"⟩
abbrev cX6_stepAt : ByteArray := prog_8_method_2_code
def yX6_stepAt : MethodName := ⟨RX6, "stepAt", "(I)LTickPools$Step;"⟩
abbrev cX6_compile : ByteArray := prog_8_method_3_code
def yX6_compile : MethodName := ⟨RX6, "compile", "()Z"⟩
abbrev cX6_openBracket : ByteArray := prog_8_method_4_code
def yX6_openBracket : MethodName := ⟨RX6, "openBracket", "()Z"⟩
abbrev cX6_closeBrackets : ByteArray := prog_8_method_5_code
def yX6_closeBrackets : MethodName := ⟨RX6, "closeBrackets", "()V"⟩
abbrev cX6_readStep : ByteArray := prog_8_method_6_code
def yX6_readStep : MethodName := ⟨RX6, "readStep", "()Z"⟩
abbrev cX6_kindOfWord : ByteArray := prog_8_method_7_code
def yX6_kindOfWord : MethodName := ⟨RX6, "kindOfWord", "()I"⟩
abbrev cX6_readPoolAndSide : ByteArray := prog_8_method_8_code
def yX6_readPoolAndSide : MethodName := ⟨RX6, "readPoolAndSide", "(LTickPools$Step;)Z"⟩
abbrev cX6_readRange : ByteArray := prog_8_method_9_code
def yX6_readRange : MethodName := ⟨RX6, "readRange", "(LTickPools$Step;)Z"⟩
abbrev cX6_readLeast : ByteArray := prog_8_method_10_code
def yX6_readLeast : MethodName := ⟨RX6, "readLeast", "(LTickPools$Step;)Z"⟩
abbrev cX6_readAmount : ByteArray := prog_8_method_11_code
def yX6_readAmount : MethodName := ⟨RX6, "readAmount", "(LTickPools$Step;II)Z"⟩
abbrev cX6_readMuch : ByteArray := prog_8_method_12_code
def yX6_readMuch : MethodName := ⟨RX6, "readMuch", "(LTickPools$Step;)Z"⟩
abbrev cX7_init : ByteArray := prog_9_method_1_code
def yX7_init : MethodName := ⟨RX7, "<init>", "()V"⟩
abbrev cX7_open : ByteArray := prog_9_method_2_code
def yX7_open : MethodName := ⟨RX7, "open", "(IIIII)V"⟩
abbrev cX7_copyFrom : ByteArray := prog_9_method_3_code
def yX7_copyFrom : MethodName := ⟨RX7, "copyFrom", "(LTickPools$Stake;)V"⟩
abbrev cX7_isOf : ByteArray := prog_9_method_4_code
def yX7_isOf : MethodName := ⟨RX7, "isOf", "(IIIII)Z"⟩
abbrev cX7_reaches : ByteArray := prog_9_method_5_code
def yX7_reaches : MethodName := ⟨RX7, "reaches", "(I)Z"⟩
abbrev cX7_owed : ByteArray := prog_9_method_6_code
def yX7_owed : MethodName := ⟨RX7, "owed", "(I)J"⟩
abbrev cX7_settle : ByteArray := prog_9_method_7_code
def yX7_settle : MethodName := ⟨RX7, "settle", "()V"⟩
abbrev cX7_liesIn : ByteArray := prog_9_method_8_code
def yX7_liesIn : MethodName := ⟨RX7, "liesIn", "(LTickPools$Pool;JIZ)J"⟩
abbrev cX8_init : ByteArray := prog_10_method_1_code
def yX8_init : MethodName := ⟨RX8, "<init>", "()V"⟩
abbrev cX8_hasBrackets : ByteArray := prog_10_method_2_code
def yX8_hasBrackets : MethodName := ⟨RX8, "hasBrackets", "()Z"⟩
abbrev cX9_init : ByteArray := prog_11_method_1_code
def yX9_init : MethodName := ⟨RX9, "<init>", "()V"⟩
abbrev cX9_hasRoom : ByteArray := prog_11_method_2_code
def yX9_hasRoom : MethodName := ⟨RX9, "hasRoom", "()Z"⟩
abbrev cX9_append : ByteArray := prog_11_method_3_code
def yX9_append : MethodName := ⟨RX9, "append", "(I)V"⟩
abbrev cX9_rewind : ByteArray := prog_11_method_4_code
def yX9_rewind : MethodName := ⟨RX9, "rewind", "()V"⟩
abbrev cX9_blame : ByteArray := prog_11_method_5_code
def yX9_blame : MethodName := ⟨RX9, "blame", "(II)Z"⟩
abbrev cX9_peek : ByteArray := prog_11_method_6_code
def yX9_peek : MethodName := ⟨RX9, "peek", "()I"⟩
abbrev cX9_byteAt : ByteArray := prog_11_method_7_code
def yX9_byteAt : MethodName := ⟨RX9, "byteAt", "(I)I"⟩
abbrev cX9_accept : ByteArray := prog_11_method_8_code
def yX9_accept : MethodName := ⟨RX9, "accept", "(I)Z"⟩
abbrev cX9_blameHere : ByteArray := prog_11_method_9_code
def yX9_blameHere : MethodName := ⟨RX9, "blameHere", "(I)Z"⟩
abbrev cX9_readWord : ByteArray := prog_11_method_10_code
def yX9_readWord : MethodName := ⟨RX9, "readWord", "()Z"⟩
abbrev cX9_wordIs : ByteArray := prog_11_method_11_code
def yX9_wordIs : MethodName := ⟨RX9, "wordIs", "(Ljava/lang/String;)Z"⟩
abbrev cX9_blameWord : ByteArray := prog_11_method_12_code
def yX9_blameWord : MethodName := ⟨RX9, "blameWord", "(I)Z"⟩
abbrev cX9_isDigit : ByteArray := prog_11_method_13_code
def yX9_isDigit : MethodName := ⟨RX9, "isDigit", "(I)Z"⟩
abbrev cX9_readNumber : ByteArray := prog_11_method_14_code
def yX9_readNumber : MethodName := ⟨RX9, "readNumber", "(II)Z"⟩
abbrev cX9_readNumberBut : ByteArray := prog_11_method_15_code
def yX9_readNumberBut : MethodName := ⟨RX9, "readNumberBut", "(II)Z"⟩
abbrev cX10_init : ByteArray := prog_12_method_1_code
def yX10_init : MethodName := ⟨RX10, "<init>", "()V"⟩
abbrev cX10_pour : ByteArray := prog_12_method_2_code
def yX10_pour : MethodName := ⟨RX10, "pour", "(LTickPools$Market;IIIJIZ)V"⟩
abbrev cX10_drain : ByteArray := prog_12_method_3_code
def yX10_drain : MethodName := ⟨RX10, "drain", "(LTickPools$Market;IIIJZ)V"⟩
abbrev cX10_start : ByteArray := prog_12_method_4_code
def yX10_start : MethodName := ⟨RX10, "start", "(LTickPools$Market;IIJZ)Z"⟩
abbrev cX10_pourStep : ByteArray := prog_12_method_5_code
def yX10_pourStep : MethodName := ⟨RX10, "pourStep", "(I)V"⟩
abbrev cX10_drainStep : ByteArray := prog_12_method_6_code
def yX10_drainStep : MethodName := ⟨RX10, "drainStep", "(I)V"⟩
abbrev cX10_aimBefore : ByteArray := prog_12_method_7_code
def yX10_aimBefore : MethodName := ⟨RX10, "aimBefore", "(I)I"⟩
abbrev cX10_takeIn : ByteArray := prog_12_method_8_code
def yX10_takeIn : MethodName := ⟨RX10, "takeIn", "(JJ)V"⟩
abbrev cX10_arrive : ByteArray := prog_12_method_9_code
def yX10_arrive : MethodName := ⟨RX10, "arrive", "(IZZ)V"⟩
abbrev cX10_zoneShortOf : ByteArray := prog_12_method_10_code
def yX10_zoneShortOf : MethodName := ⟨RX10, "zoneShortOf", "(I)I"⟩
abbrev cX10_finish : ByteArray := prog_12_method_11_code
def yX10_finish : MethodName := ⟨RX10, "finish", "(I)V"⟩
abbrev cX11_init : ByteArray := prog_1_method_1_code
def yX11_init : MethodName := ⟨RX11, "<init>", "()V"⟩
abbrev cX11_feed : ByteArray := prog_1_method_2_code
def yX11_feed : MethodName := ⟨RX11, "feed", "(IIIII)I"⟩
abbrev cX11_end : ByteArray := prog_1_method_3_code
def yX11_end : MethodName := ⟨RX11, "end", "(I)I"⟩
abbrev cX11_market : ByteArray := prog_1_method_4_code
def yX11_market : MethodName := ⟨RX11, "market", "()I"⟩
abbrev cX11_bundle : ByteArray := prog_1_method_5_code
def yX11_bundle : MethodName := ⟨RX11, "bundle", "(I)I"⟩
abbrev cX11_root : ByteArray := prog_1_method_6_code
def yX11_root : MethodName := ⟨RX11, "root", "(I)I"⟩
abbrev cX11_purse : ByteArray := prog_1_method_7_code
def yX11_purse : MethodName := ⟨RX11, "purse", "(II)I"⟩
abbrev cX11_pool : ByteArray := prog_1_method_8_code
def yX11_pool : MethodName := ⟨RX11, "pool", "(II)I"⟩
abbrev cX11_depth : ByteArray := prog_1_method_9_code
def yX11_depth : MethodName := ⟨RX11, "depth", "(II)I"⟩
abbrev cX11_stake : ByteArray := prog_1_method_10_code
def yX11_stake : MethodName := ⟨RX11, "stake", "(II)I"⟩
abbrev cX11_add : ByteArray := prog_1_method_11_code
def yX11_add : MethodName := ⟨RX11, "add", "(IIIIII)I"⟩
abbrev cX11_take : ByteArray := prog_1_method_12_code
def yX11_take : MethodName := ⟨RX11, "take", "(II)I"⟩
abbrev cX11_pay : ByteArray := prog_1_method_13_code
def yX11_pay : MethodName := ⟨RX11, "pay", "(I)I"⟩
abbrev cX11_levy : ByteArray := prog_1_method_14_code
def yX11_levy : MethodName := ⟨RX11, "levy", "(I)I"⟩
abbrev cX11_in : ByteArray := prog_1_method_15_code
def yX11_in : MethodName := ⟨RX11, "in", "(IIIII)I"⟩
abbrev cX11_out : ByteArray := prog_1_method_16_code
def yX11_out : MethodName := ⟨RX11, "out", "(IIII)I"⟩
abbrev cX11_passes : ByteArray := prog_1_method_17_code
def yX11_passes : MethodName := ⟨RX11, "passes", "(I)I"⟩
abbrev cX11_mean : ByteArray := prog_1_method_18_code
def yX11_mean : MethodName := ⟨RX11, "mean", "(II)I"⟩
abbrev cX11_quoteIn : ByteArray := prog_1_method_19_code
def yX11_quoteIn : MethodName := ⟨RX11, "quoteIn", "(IIIII)I"⟩
abbrev cX11_quoteOut : ByteArray := prog_1_method_20_code
def yX11_quoteOut : MethodName := ⟨RX11, "quoteOut", "(IIII)I"⟩
abbrev cX11_round : ByteArray := prog_1_method_21_code
def yX11_round : MethodName := ⟨RX11, "round", "(III)I"⟩
abbrev cX11_least : ByteArray := prog_1_method_22_code
def yX11_least : MethodName := ⟨RX11, "least", "(III)I"⟩
abbrev cX11_route : ByteArray := prog_1_method_23_code
def yX11_route : MethodName := ⟨RX11, "route", "(IIII)I"⟩
abbrev cX11_parts : ByteArray := prog_1_method_24_code
def yX11_parts : MethodName := ⟨RX11, "parts", "(IIII)I"⟩
abbrev cX11_ring : ByteArray := prog_1_method_25_code
def yX11_ring : MethodName := ⟨RX11, "ring", "(II)I"⟩
abbrev cX11_total : ByteArray := prog_1_method_26_code
def yX11_total : MethodName := ⟨RX11, "total", "(I)I"⟩
abbrev cX11_count : ByteArray := prog_1_method_27_code
def yX11_count : MethodName := ⟨RX11, "count", "(I)I"⟩
abbrev cX11_canAsk : ByteArray := prog_1_method_28_code
def yX11_canAsk : MethodName := ⟨RX11, "canAsk", "(III)Z"⟩
abbrev cX11_canWander : ByteArray := prog_1_method_29_code
def yX11_canWander : MethodName := ⟨RX11, "canWander", "(III)Z"⟩
abbrev cX11_comesTo : ByteArray := prog_1_method_30_code
def yX11_comesTo : MethodName := ⟨RX11, "comesTo", "(IIII)Z"⟩
abbrev cX11_isTick : ByteArray := prog_1_method_31_code
def yX11_isTick : MethodName := ⟨RX11, "isTick", "(I)Z"⟩
abbrev cX11_isZone : ByteArray := prog_1_method_32_code
def yX11_isZone : MethodName := ⟨RX11, "isZone", "(I)Z"⟩
abbrev cX11_isSide : ByteArray := prog_1_method_33_code
def yX11_isSide : MethodName := ⟨RX11, "isSide", "(I)Z"⟩
abbrev cX11_isAmount : ByteArray := prog_1_method_34_code
def yX11_isAmount : MethodName := ⟨RX11, "isAmount", "(I)Z"⟩
abbrev cX11_lastTick : ByteArray := prog_1_method_35_code
def yX11_lastTick : MethodName := ⟨RX11, "lastTick", "(I)I"⟩
abbrev cX12_init : ByteArray := prog_14_method_1_code
def yX12_init : MethodName := ⟨RX12, "<init>", "()V"⟩
abbrev cX12_isIn : ByteArray := prog_14_method_2_code
def yX12_isIn : MethodName := ⟨RX12, "isIn", "(JJJ)Z"⟩
abbrev cX12_up : ByteArray := prog_14_method_3_code
def yX12_up : MethodName := ⟨RX12, "up", "(JJ)J"⟩
abbrev cX12_rootOfNumber : ByteArray := prog_14_method_4_code
def yX12_rootOfNumber : MethodName := ⟨RX12, "rootOfNumber", "(J)J"⟩
abbrev cX12_zoneOf : ByteArray := prog_14_method_5_code
def yX12_zoneOf : MethodName := ⟨RX12, "zoneOf", "(J)I"⟩
abbrev cX12_feeOf : ByteArray := prog_14_method_6_code
def yX12_feeOf : MethodName := ⟨RX12, "feeOf", "(I)I"⟩
abbrev cX12_keeps : ByteArray := prog_14_method_7_code
def yX12_keeps : MethodName := ⟨RX12, "keeps", "(I)V"⟩
abbrev cX12_laysBack : ByteArray := prog_14_method_8_code
def yX12_laysBack : MethodName := ⟨RX12, "laysBack", "(I)V"⟩
abbrev cX12_ofPool : ByteArray := prog_14_method_9_code
def yX12_ofPool : MethodName := ⟨RX12, "ofPool", "(II)J"⟩
abbrev cX12_setPool : ByteArray := prog_14_method_10_code
def yX12_setPool : MethodName := ⟨RX12, "setPool", "(IIJ)V"⟩
abbrev cX12_morePool : ByteArray := prog_14_method_11_code
def yX12_morePool : MethodName := ⟨RX12, "morePool", "(IIJ)V"⟩
abbrev cX12_ofStake : ByteArray := prog_14_method_12_code
def yX12_ofStake : MethodName := ⟨RX12, "ofStake", "(II)J"⟩
abbrev cX12_setStake : ByteArray := prog_14_method_13_code
def yX12_setStake : MethodName := ⟨RX12, "setStake", "(IIJ)V"⟩
abbrev cX12_stakes : ByteArray := prog_14_method_14_code
def yX12_stakes : MethodName := ⟨RX12, "stakes", "()I"⟩
abbrev cX12_zoneNow : ByteArray := prog_14_method_15_code
def yX12_zoneNow : MethodName := ⟨RX12, "zoneNow", "(I)I"⟩
abbrev cX12_thingOf : ByteArray := prog_14_method_16_code
def yX12_thingOf : MethodName := ⟨RX12, "thingOf", "(II)I"⟩
abbrev cX12_inPurse : ByteArray := prog_14_method_17_code
def yX12_inPurse : MethodName := ⟨RX12, "inPurse", "(II)J"⟩
abbrev cX12_morePurse : ByteArray := prog_14_method_18_code
def yX12_morePurse : MethodName := ⟨RX12, "morePurse", "(IIJ)V"⟩
abbrev cX12_isPool : ByteArray := prog_14_method_19_code
def yX12_isPool : MethodName := ⟨RX12, "isPool", "(I)Z"⟩
abbrev cX12_isPerson : ByteArray := prog_14_method_20_code
def yX12_isPerson : MethodName := ⟨RX12, "isPerson", "(I)Z"⟩
abbrev cX12_isThing : ByteArray := prog_14_method_21_code
def yX12_isThing : MethodName := ⟨RX12, "isThing", "(I)Z"⟩
abbrev cX12_isStake : ByteArray := prog_14_method_22_code
def yX12_isStake : MethodName := ⟨RX12, "isStake", "(I)Z"⟩
abbrev cX12_feed : ByteArray := prog_14_method_23_code
def yX12_feed : MethodName := ⟨RX12, "feed", "(IIIII)I"⟩
abbrev cX12_end : ByteArray := prog_14_method_24_code
def yX12_end : MethodName := ⟨RX12, "end", "(I)I"⟩
abbrev cX12_fails : ByteArray := prog_14_method_25_code
def yX12_fails : MethodName := ⟨RX12, "fails", "(II)Z"⟩
abbrev cX12_byteAt : ByteArray := prog_14_method_26_code
def yX12_byteAt : MethodName := ⟨RX12, "byteAt", "(I)I"⟩
abbrev cX12_next : ByteArray := prog_14_method_27_code
def yX12_next : MethodName := ⟨RX12, "next", "()I"⟩
abbrev cX12_isDigit : ByteArray := prog_14_method_28_code
def yX12_isDigit : MethodName := ⟨RX12, "isDigit", "(I)Z"⟩
abbrev cX12_isLetter : ByteArray := prog_14_method_29_code
def yX12_isLetter : MethodName := ⟨RX12, "isLetter", "(I)Z"⟩
abbrev cX12_wordHere : ByteArray := prog_14_method_30_code
def yX12_wordHere : MethodName := ⟨RX12, "wordHere", "()J"⟩
abbrev cX12_word : ByteArray := prog_14_method_31_code
def yX12_word : MethodName := ⟨RX12, "word", "(IIIIII)J"⟩
abbrev cX12_passWord : ByteArray := prog_14_method_32_code
def yX12_passWord : MethodName := ⟨RX12, "passWord", "()V"⟩
abbrev cX12_reads : ByteArray := prog_14_method_33_code
def yX12_reads : MethodName := ⟨RX12, "reads", "(II)Z"⟩
abbrev cX12_takesSign : ByteArray := prog_14_method_34_code
def yX12_takesSign : MethodName := ⟨RX12, "takesSign", "(I)Z"⟩
abbrev cX12_readsMarket : ByteArray := prog_14_method_35_code
def yX12_readsMarket : MethodName := ⟨RX12, "readsMarket", "(I)Z"⟩
abbrev cX12_readsPool : ByteArray := prog_14_method_36_code
def yX12_readsPool : MethodName := ⟨RX12, "readsPool", "(I)Z"⟩
abbrev cX12_readsPurse : ByteArray := prog_14_method_37_code
def yX12_readsPurse : MethodName := ⟨RX12, "readsPurse", "()Z"⟩
abbrev cX12_readsClause : ByteArray := prog_14_method_38_code
def yX12_readsClause : MethodName := ⟨RX12, "readsClause", "(I)Z"⟩
abbrev cX12_readsAll : ByteArray := prog_14_method_39_code
def yX12_readsAll : MethodName := ⟨RX12, "readsAll", "()Z"⟩
abbrev cX12_begins : ByteArray := prog_14_method_40_code
def yX12_begins : MethodName := ⟨RX12, "begins", "()V"⟩
abbrev cX12_market : ByteArray := prog_14_method_41_code
def yX12_market : MethodName := ⟨RX12, "market", "()I"⟩
abbrev cX12_first : ByteArray := prog_14_method_42_code
def yX12_first : MethodName := ⟨RX12, "first", "(JJJZ)J"⟩
abbrev cX12_second : ByteArray := prog_14_method_43_code
def yX12_second : MethodName := ⟨RX12, "second", "(JJJZ)J"⟩
abbrev cX12_liesIn : ByteArray := prog_14_method_44_code
def yX12_liesIn : MethodName := ⟨RX12, "liesIn", "(IIIJIZ)J"⟩
abbrev cX12_isAcross : ByteArray := prog_14_method_45_code
def yX12_isAcross : MethodName := ⟨RX12, "isAcross", "(III)Z"⟩
abbrev cX12_depthOf : ByteArray := prog_14_method_46_code
def yX12_depthOf : MethodName := ⟨RX12, "depthOf", "(II)J"⟩
abbrev cX12_owedTo : ByteArray := prog_14_method_47_code
def yX12_owedTo : MethodName := ⟨RX12, "owedTo", "(II)J"⟩
abbrev cX12_settles : ByteArray := prog_14_method_48_code
def yX12_settles : MethodName := ⟨RX12, "settles", "(I)V"⟩
abbrev cX12_goesOut : ByteArray := prog_14_method_49_code
def yX12_goesOut : MethodName := ⟨RX12, "goesOut", "(IIIJ)V"⟩
abbrev cX12_paysOut : ByteArray := prog_14_method_50_code
def yX12_paysOut : MethodName := ⟨RX12, "paysOut", "(I)J"⟩
abbrev cX12_takesOut : ByteArray := prog_14_method_51_code
def yX12_takesOut : MethodName := ⟨RX12, "takesOut", "(IJ)V"⟩
abbrev cX12_stakeOf : ByteArray := prog_14_method_52_code
def yX12_stakeOf : MethodName := ⟨RX12, "stakeOf", "(IIIII)I"⟩
abbrev cX12_areTicks : ByteArray := prog_14_method_53_code
def yX12_areTicks : MethodName := ⟨RX12, "areTicks", "(III)Z"⟩
abbrev cX12_adds : ByteArray := prog_14_method_54_code
def yX12_adds : MethodName := ⟨RX12, "adds", "(IIIIII)I"⟩
abbrev cX12_add : ByteArray := prog_14_method_55_code
def yX12_add : MethodName := ⟨RX12, "add", "(IIIIII)I"⟩
abbrev cX12_take : ByteArray := prog_14_method_56_code
def yX12_take : MethodName := ⟨RX12, "take", "(II)I"⟩
abbrev cX12_pay : ByteArray := prog_14_method_57_code
def yX12_pay : MethodName := ⟨RX12, "pay", "(I)I"⟩
abbrev cX12_levy : ByteArray := prog_14_method_58_code
def yX12_levy : MethodName := ⟨RX12, "levy", "(I)I"⟩
abbrev cX12_aimOf : ByteArray := prog_14_method_59_code
def yX12_aimOf : MethodName := ⟨RX12, "aimOf", "(III)I"⟩
abbrev cX12_shares : ByteArray := prog_14_method_60_code
def yX12_shares : MethodName := ⟨RX12, "shares", "(IIJ)V"⟩
abbrev cX12_wantedTo : ByteArray := prog_14_method_61_code
def yX12_wantedTo : MethodName := ⟨RX12, "wantedTo", "(III)J"⟩
abbrev cX12_feeUpon : ByteArray := prog_14_method_62_code
def yX12_feeUpon : MethodName := ⟨RX12, "feeUpon", "(IJ)J"⟩
abbrev cX12_rootBy : ByteArray := prog_14_method_63_code
def yX12_rootBy : MethodName := ⟨RX12, "rootBy", "(IIJ)J"⟩
abbrev cX12_rootByOut : ByteArray := prog_14_method_64_code
def yX12_rootByOut : MethodName := ⟨RX12, "rootByOut", "(IIJ)J"⟩
abbrev cX12_zoneBy : ByteArray := prog_14_method_65_code
def yX12_zoneBy : MethodName := ⟨RX12, "zoneBy", "(IIII)I"⟩
abbrev cX12_drops : ByteArray := prog_14_method_66_code
def yX12_drops : MethodName := ⟨RX12, "drops", "(III)V"⟩
abbrev cX12_steps : ByteArray := prog_14_method_67_code
def yX12_steps : MethodName := ⟨RX12, "steps", "(IIIZ)Z"⟩
abbrev cX12_swaps : ByteArray := prog_14_method_68_code
def yX12_swaps : MethodName := ⟨RX12, "swaps", "(IIJIZ)V"⟩
abbrev cX12_endOf : ByteArray := prog_14_method_69_code
def yX12_endOf : MethodName := ⟨RX12, "endOf", "(I)I"⟩
abbrev cX12_isSide : ByteArray := prog_14_method_70_code
def yX12_isSide : MethodName := ⟨RX12, "isSide", "(I)Z"⟩
abbrev cX12_markOf : ByteArray := prog_14_method_71_code
def yX12_markOf : MethodName := ⟨RX12, "markOf", "(III)J"⟩
abbrev cX12_marks : ByteArray := prog_14_method_72_code
def yX12_marks : MethodName := ⟨RX12, "marks", "(I)I"⟩
abbrev cX12_sumAt : ByteArray := prog_14_method_73_code
def yX12_sumAt : MethodName := ⟨RX12, "sumAt", "(IJ)J"⟩
abbrev cX12_marksNow : ByteArray := prog_14_method_74_code
def yX12_marksNow : MethodName := ⟨RX12, "marksNow", "(I)V"⟩
abbrev cX12_mean : ByteArray := prog_14_method_75_code
def yX12_mean : MethodName := ⟨RX12, "mean", "(II)I"⟩
abbrev cX12_passes : ByteArray := prog_14_method_76_code
def yX12_passes : MethodName := ⟨RX12, "passes", "(I)I"⟩
abbrev cX12_trades : ByteArray := prog_14_method_77_code
def yX12_trades : MethodName := ⟨RX12, "trades", "(III)V"⟩
abbrev cX12_in : ByteArray := prog_14_method_78_code
def yX12_in : MethodName := ⟨RX12, "in", "(IIIII)I"⟩
abbrev cX12_out : ByteArray := prog_14_method_79_code
def yX12_out : MethodName := ⟨RX12, "out", "(IIII)I"⟩
abbrev cX12_kindBy : ByteArray := prog_14_method_80_code
def yX12_kindBy : MethodName := ⟨RX12, "kindBy", "(J[J)I"⟩
abbrev cX12_readsNumbers : ByteArray := prog_14_method_81_code
def yX12_readsNumbers : MethodName := ⟨RX12, "readsNumbers", "(IIIII)Z"⟩
abbrev cX12_readsMuch : ByteArray := prog_14_method_82_code
def yX12_readsMuch : MethodName := ⟨RX12, "readsMuch", "(I)Z"⟩
abbrev cX12_opens : ByteArray := prog_14_method_83_code
def yX12_opens : MethodName := ⟨RX12, "opens", "(I)Z"⟩
abbrev cX12_readsStep : ByteArray := prog_14_method_84_code
def yX12_readsStep : MethodName := ⟨RX12, "readsStep", "()Z"⟩
abbrev cX12_goesOn : ByteArray := prog_14_method_85_code
def yX12_goesOn : MethodName := ⟨RX12, "goesOn", "()I"⟩
abbrev cX12_readsBundle : ByteArray := prog_14_method_86_code
def yX12_readsBundle : MethodName := ⟨RX12, "readsBundle", "()Z"⟩
abbrev cX12_isOpen : ByteArray := prog_14_method_87_code
def yX12_isOpen : MethodName := ⟨RX12, "isOpen", "(I)Z"⟩
abbrev cX12_stops : ByteArray := prog_14_method_88_code
def yX12_stops : MethodName := ⟨RX12, "stops", "(II)Z"⟩
abbrev cX12_muchOf : ByteArray := prog_14_method_89_code
def yX12_muchOf : MethodName := ⟨RX12, "muchOf", "(I)J"⟩
abbrev cX12_swapsOne : ByteArray := prog_14_method_90_code
def yX12_swapsOne : MethodName := ⟨RX12, "swapsOne", "(I)Z"⟩
abbrev cX12_dropsOne : ByteArray := prog_14_method_91_code
def yX12_dropsOne : MethodName := ⟨RX12, "dropsOne", "(I)Z"⟩
abbrev cX12_goesInto : ByteArray := prog_14_method_92_code
def yX12_goesInto : MethodName := ⟨RX12, "goesInto", "(IIJ)V"⟩
abbrev cX12_lends : ByteArray := prog_14_method_93_code
def yX12_lends : MethodName := ⟨RX12, "lends", "(I)Z"⟩
abbrev cX12_givesBack : ByteArray := prog_14_method_94_code
def yX12_givesBack : MethodName := ⟨RX12, "givesBack", "(IJ)Z"⟩
abbrev cX12_doesOne : ByteArray := prog_14_method_95_code
def yX12_doesOne : MethodName := ⟨RX12, "doesOne", "(I)Z"⟩
abbrev cX12_comesOut : ByteArray := prog_14_method_96_code
def yX12_comesOut : MethodName := ⟨RX12, "comesOut", "()I"⟩
abbrev cX12_goesFrom : ByteArray := prog_14_method_97_code
def yX12_goesFrom : MethodName := ⟨RX12, "goesFrom", "(I)I"⟩
abbrev cX12_doesAll : ByteArray := prog_14_method_98_code
def yX12_doesAll : MethodName := ⟨RX12, "doesAll", "()Z"⟩
abbrev cX12_bundle : ByteArray := prog_14_method_99_code
def yX12_bundle : MethodName := ⟨RX12, "bundle", "(I)I"⟩
abbrev cX12_root : ByteArray := prog_14_method_100_code
def yX12_root : MethodName := ⟨RX12, "root", "(I)I"⟩
abbrev cX12_purse : ByteArray := prog_14_method_101_code
def yX12_purse : MethodName := ⟨RX12, "purse", "(II)I"⟩
abbrev cX12_overIn : ByteArray := prog_14_method_102_code
def yX12_overIn : MethodName := ⟨RX12, "overIn", "(II)J"⟩
abbrev cX12_pool : ByteArray := prog_14_method_103_code
def yX12_pool : MethodName := ⟨RX12, "pool", "(II)I"⟩
abbrev cX12_depth : ByteArray := prog_14_method_104_code
def yX12_depth : MethodName := ⟨RX12, "depth", "(II)I"⟩
abbrev cX12_stake : ByteArray := prog_14_method_105_code
def yX12_stake : MethodName := ⟨RX12, "stake", "(II)I"⟩
abbrev cX12_quoteIn : ByteArray := prog_14_method_106_code
def yX12_quoteIn : MethodName := ⟨RX12, "quoteIn", "(IIIII)I"⟩
abbrev cX12_quoteOut : ByteArray := prog_14_method_107_code
def yX12_quoteOut : MethodName := ⟨RX12, "quoteOut", "(IIII)I"⟩
abbrev cX12_round : ByteArray := prog_14_method_108_code
def yX12_round : MethodName := ⟨RX12, "round", "(III)I"⟩
abbrev cX12_isThere : ByteArray := prog_14_method_109_code
def yX12_isThere : MethodName := ⟨RX12, "isThere", "(III)Z"⟩
abbrev cX12_zoneWithin : ByteArray := prog_14_method_110_code
def yX12_zoneWithin : MethodName := ⟨RX12, "zoneWithin", "(IIIJ)I"⟩
abbrev cX12_leastWithin : ByteArray := prog_14_method_111_code
def yX12_leastWithin : MethodName := ⟨RX12, "leastWithin", "(IIIIJ)J"⟩
abbrev cX12_leastTo : ByteArray := prog_14_method_112_code
def yX12_leastTo : MethodName := ⟨RX12, "leastTo", "(III)J"⟩
abbrev cX12_least : ByteArray := prog_14_method_113_code
def yX12_least : MethodName := ⟨RX12, "least", "(III)I"⟩
abbrev cX12_lengthOf : ByteArray := prog_14_method_114_code
def yX12_lengthOf : MethodName := ⟨RX12, "lengthOf", "(I)I"⟩
abbrev cX12_poolIn : ByteArray := prog_14_method_115_code
def yX12_poolIn : MethodName := ⟨RX12, "poolIn", "(II)I"⟩
abbrev cX12_hop : ByteArray := prog_14_method_116_code
def yX12_hop : MethodName := ⟨RX12, "hop", "(IIJ)J"⟩
abbrev cX12_along : ByteArray := prog_14_method_117_code
def yX12_along : MethodName := ⟨RX12, "along", "(IIIJ)J"⟩
abbrev cX12_routes : ByteArray := prog_14_method_118_code
def yX12_routes : MethodName := ⟨RX12, "routes", "(IIJ)V"⟩
abbrev cX12_isWay : ByteArray := prog_14_method_119_code
def yX12_isWay : MethodName := ⟨RX12, "isWay", "(III)Z"⟩
abbrev cX12_route : ByteArray := prog_14_method_120_code
def yX12_route : MethodName := ⟨RX12, "route", "(IIII)I"⟩
abbrev cX12_goesAlong : ByteArray := prog_14_method_121_code
def yX12_goesAlong : MethodName := ⟨RX12, "goesAlong", "(IIJ)V"⟩
abbrev cX12_goesByParts : ByteArray := prog_14_method_122_code
def yX12_goesByParts : MethodName := ⟨RX12, "goesByParts", "(IIJ)Z"⟩
abbrev cX12_parts : ByteArray := prog_14_method_123_code
def yX12_parts : MethodName := ⟨RX12, "parts", "(IIII)I"⟩
abbrev cX12_ring : ByteArray := prog_14_method_124_code
def yX12_ring : MethodName := ⟨RX12, "ring", "(II)I"⟩
abbrev cX12_total : ByteArray := prog_14_method_125_code
def yX12_total : MethodName := ⟨RX12, "total", "(I)I"⟩
abbrev cX12_count : ByteArray := prog_14_method_126_code
def yX12_count : MethodName := ⟨RX12, "count", "(I)I"⟩
theorem tq_0 : (.initialized "TickPoolsLaw" : Cond) ∈ tables_1 := it1 mh
theorem tq_1 : (.initialized "TickPools" : Cond) ∈ tables_1 := it1 (mt mh)
theorem tq_2 : (.initialized "TickPools$Tape" : Cond) ∈ tables_1 := it1 (mt (mt mh))
theorem tq_3 : (.initialized "TickPools$Market" : Cond) ∈ tables_1 := it1 (mt (mt (mt mh)))
theorem tq_4 : (.initialized "TickPools$Pool" : Cond) ∈ tables_1 := it1 (mt (mt (mt (mt mh))))
theorem tq_5 : (.initialized "TickPools$Stake" : Cond) ∈ tables_1 := it1 (mt (mt (mt (mt (mt mh)))))
theorem tq_6 : (.initialized "TickPools$Trade" : Cond) ∈ tables_1 := it1 (mt (mt (mt (mt (mt (mt mh))))))
theorem tq_7 : (.initialized "TickPools$MarketReader" : Cond) ∈ tables_1 := it1 (mt (mt (mt (mt (mt (mt (mt mh)))))))
theorem tq_8 : (.initialized "TickPools$Script" : Cond) ∈ tables_1 := it1 (mt (mt (mt (mt (mt (mt (mt (mt mh))))))))
theorem tq_9 : (.initialized "TickPools$Step" : Cond) ∈ tables_1 := it1 (m9 mh)
theorem tq_10 : (.initialized "TickPools$Runner" : Cond) ∈ tables_1 := it1 (m9 (mt mh))
theorem tq_11 : (.initialized "TickPools$Finder" : Cond) ∈ tables_1 := it1 (m9 (mt (mt mh)))
theorem tq_12 : (.initialized "TickPoolsModel" : Cond) ∈ tables_1 := it1 (m9 (mt (mt (mt mh))))
theorem tq_13 : (.initialized "java/lang/String" : Cond) ∈ tables_1 := it1 (m9 (mt (mt (mt (mt mh)))))
theorem tq_14 : (.initialized "java/lang/StringLatin1" : Cond) ∈ tables_1 := it1 (m9 (mt (mt (mt (mt (mt mh))))))
theorem tq_15 : (.initialized "jdk/internal/util/Preconditions" : Cond) ∈ tables_1 := it1 (m9 (mt (mt (mt (mt (mt (mt mh)))))))
theorem tq_16 : (.initialized "java/lang/StringUTF16" : Cond) ∈ tables_1 := it1 (m9 (mt (mt (mt (mt (mt (mt (mt mh))))))))
theorem tq_17 : (.initialized "TickPools$Curve" : Cond) ∈ tables_1 := it1 (m9 (mt (mt (mt (mt (mt (mt (mt (mt mh)))))))))
theorem tq_18 : (.initialized "java/lang/System" : Cond) ∈ tables_1 := it1 (m9 (m9 mh))
theorem tq_19 : (.classLink "TickPoolsLaw" 7 "TickPools" : Cond) ∈ tables_1 := it1 (m9 (m9 (mt mh)))
theorem tq_20 : (.instantiable "TickPools" 8 : Cond) ∈ tables_1 := it1 (m9 (m9 (mt (mt mh))))
theorem tq_21 : (.methodLink "TickPoolsLaw" 9 yX11_init : Cond) ∈ tables_1 := it1 (m9 (m9 (mt (mt (mt mh)))))
theorem tq_22 : (.instanceMethod yX11_init : Cond) ∈ tables_1 := it1 (m9 (m9 (mt (mt (mt (mt mh))))))
theorem tq_23 : ((Jvm.Cond.code ({ cls := "TickPools", name := "<init>", desc := "()V" } : Jvm.MethodName) prog_1_method_1_code (1 : Nat) (Option.none : Option Jvm.ClassFile.FieldType)) : Cond) ∈ tables_1 := it1 (m9 (m9 (mt (mt (mt (mt (mt mh)))))))
theorem tq_24 : (.methodLink "TickPools" 1 ⟨"java/lang/Object", "<init>", "()V"⟩ : Cond) ∈ tables_1 := it1 (m9 (m9 (mt (mt (mt (mt (mt (mt mh))))))))
theorem tq_25 : (.instanceMethod ⟨"java/lang/Object", "<init>", "()V"⟩ : Cond) ∈ tables_1 := it1 (m9 (m9 (mt (mt (mt (mt (mt (mt (mt mh)))))))))
theorem tq_26 : ((Jvm.Cond.code ({ cls := "java/lang/Object", name := "<init>", desc := "()V" } : Jvm.MethodName) object_method_1_code (1 : Nat) (Option.none : Option Jvm.ClassFile.FieldType)) : Cond) ∈ tables_1 := it1 (m9 (m9 (mt (mt (mt (mt (mt (mt (mt (mt mh))))))))))
theorem tq_27 : (.classLink "TickPools" 7 "TickPools$Tape" : Cond) ∈ tables_1 := it1 (m81 mh)
theorem tq_28 : (.instantiable "TickPools$Tape" 7 : Cond) ∈ tables_1 := it1 (m81 (mt mh))
theorem tq_29 : (.methodLink "TickPools" 9 yX9_init : Cond) ∈ tables_1 := it1 (m81 (mt (mt mh)))
theorem tq_30 : (.instanceMethod yX9_init : Cond) ∈ tables_1 := it1 (m81 (mt (mt (mt mh))))
theorem tq_31 : ((Jvm.Cond.code ({ cls := "TickPools$Tape", name := "<init>", desc := "()V" } : Jvm.MethodName) prog_11_method_1_code (1 : Nat) (Option.none : Option Jvm.ClassFile.FieldType)) : Cond) ∈ tables_1 := it1 (m81 (mt (mt (mt (mt mh)))))
theorem tq_32 : (.methodLink "TickPools$Tape" 3 ⟨"java/lang/Object", "<init>", "()V"⟩ : Cond) ∈ tables_1 := it1 (m81 (mt (mt (mt (mt (mt mh))))))
theorem tq_33 : (.fieldLink "TickPools$Tape" 15 "TickPools$Tape" "length" "I" : Cond) ∈ tables_1 := it1 (m81 (mt (mt (mt (mt (mt (mt mh)))))))
theorem tq_34 : (.fieldLink "TickPools" 77 "TickPools$Tape" "length" "I" : Cond) ∈ tables_1 := it1 (m81 (mt (mt (mt (mt (mt (mt (mt mh))))))))
theorem tq_35 : (.fieldLink "TickPools$Tape" 22 "TickPools$Tape" "fault" "I" : Cond) ∈ tables_1 := it1 (m81 (mt (mt (mt (mt (mt (mt (mt (mt mh)))))))))
theorem tq_36 : (.fieldLink "TickPools" 84 "TickPools$Tape" "fault" "I" : Cond) ∈ tables_1 := it1 (m81 (m9 mh))
theorem tq_37 : (.fieldLink "TickPools$MarketReader" 76 "TickPools$Tape" "value" "I" : Cond) ∈ tables_1 := it1 (m81 (m9 (mt mh)))
theorem tq_38 : (.fieldLink "TickPools$Script" 127 "TickPools$Tape" "value" "I" : Cond) ∈ tables_1 := it1 (m81 (m9 (mt (mt mh))))
theorem tq_39 : (.fieldLink "TickPools$Tape" 51 "TickPools$Tape" "value" "I" : Cond) ∈ tables_1 := it1 (m81 (m9 (mt (mt (mt mh)))))
theorem tq_40 : (.fieldLink "TickPools$Script" 81 "TickPools$Tape" "wordStart" "I" : Cond) ∈ tables_1 := it1 (m81 (m9 (mt (mt (mt (mt mh))))))
theorem tq_41 : (.fieldLink "TickPools$Tape" 37 "TickPools$Tape" "wordStart" "I" : Cond) ∈ tables_1 := it1 (m81 (m9 (mt (mt (mt (mt (mt mh)))))))
theorem tq_42 : (.fieldLink "TickPools$Tape" 40 "TickPools$Tape" "wordEnd" "I" : Cond) ∈ tables_1 := it1 (m81 (m9 (mt (mt (mt (mt (mt (mt mh))))))))
theorem tq_43 : (.fieldLink "TickPools$Tape" 19 "TickPools$Tape" "at" "I" : Cond) ∈ tables_1 := it1 (m81 (m9 (mt (mt (mt (mt (mt (mt (mt mh)))))))))
theorem tq_44 : (.fieldLink "TickPools$Tape" 9 "TickPools$Tape" "bytes" "[B" : Cond) ∈ tables_1 := it1 (m81 (m9 (mt (mt (mt (mt (mt (mt (mt (mt mh))))))))))
theorem tq_45 : (.lays "TickPools$Tape" "TickPools$Tape" "length" "I" : Cond) ∈ tables_1 := it1 (m81 (m9 (m9 mh)))
theorem tq_47 : (.lays "TickPools$Tape" "TickPools$Tape" "fault" "I" : Cond) ∈ tables_1 := it1 (m81 (m9 (m9 (mt (mt mh)))))
theorem tq_49 : (.lays "TickPools$Tape" "TickPools$Tape" "value" "I" : Cond) ∈ tables_1 := it1 (m81 (m9 (m9 (mt (mt (mt (mt mh)))))))
theorem tq_51 : (.lays "TickPools$Tape" "TickPools$Tape" "wordStart" "I" : Cond) ∈ tables_1 := it1 (m81 (m9 (m9 (mt (mt (mt (mt (mt (mt mh)))))))))
theorem tq_53 : (.lays "TickPools$Tape" "TickPools$Tape" "wordEnd" "I" : Cond) ∈ tables_1 := it1 (m81 (m9 (m9 (mt (mt (mt (mt (mt (mt (mt (mt mh)))))))))))
theorem tq_55 : (.lays "TickPools$Tape" "TickPools$Tape" "at" "I" : Cond) ∈ tables_1 := it1 (m81 (m81 (mt mh)))
theorem tq_57 : (.laysFinal "TickPools$Tape" "TickPools$Tape" "bytes" "[B" : Cond) ∈ tables_1 := it1 (m81 (m81 (mt (mt (mt mh)))))
theorem tq_60 : (.arrayClass Jvm.ClassFile.FieldType.byte : Cond) ∈ tables_1 := it1 (m81 (m81 (mt (mt (mt (mt (mt (mt mh))))))))
theorem tq_61 : (.classLink "TickPools" 16 "TickPools$Market" : Cond) ∈ tables_1 := it1 (m81 (m81 (mt (mt (mt (mt (mt (mt (mt mh)))))))))
theorem tq_62 : (.instantiable "TickPools$Market" 9 : Cond) ∈ tables_1 := it1 (m81 (m81 (mt (mt (mt (mt (mt (mt (mt (mt mh))))))))))
theorem tq_63 : (.methodLink "TickPools" 18 yX2_init : Cond) ∈ tables_1 := it1 (m81 (m81 (m9 mh)))
theorem tq_64 : (.instanceMethod yX2_init : Cond) ∈ tables_1 := it1 (m81 (m81 (m9 (mt mh))))
theorem tq_65 : ((Jvm.Cond.code ({ cls := "TickPools$Market", name := "<init>", desc := "()V" } : Jvm.MethodName) prog_4_method_1_code (2 : Nat) (Option.none : Option Jvm.ClassFile.FieldType)) : Cond) ∈ tables_1 := it1 (m81 (m81 (m9 (mt (mt mh)))))
theorem tq_66 : (.methodLink "TickPools$Market" 3 ⟨"java/lang/Object", "<init>", "()V"⟩ : Cond) ∈ tables_1 := it1 (m81 (m81 (m9 (mt (mt (mt mh))))))
theorem tq_67 : (.classLink "TickPools$Market" 15 "TickPools$Pool" : Cond) ∈ tables_1 := it1 (m81 (m81 (m9 (mt (mt (mt (mt mh)))))))
theorem tq_68 : (.arrayOver (Jvm.ClassFile.FieldType.object "TickPools$Pool") : Cond) ∈ tables_1 := it1 (m81 (m81 (m9 (mt (mt (mt (mt (mt mh))))))))
theorem tq_69 : (.instantiable "TickPools$Pool" 12 : Cond) ∈ tables_1 := it1 (m81 (m81 (m9 (mt (mt (mt (mt (mt (mt mh)))))))))
theorem tq_70 : (.methodLink "TickPools$Market" 21 yX4_init : Cond) ∈ tables_1 := it1 (m81 (m81 (m9 (mt (mt (mt (mt (mt (mt (mt mh))))))))))
theorem tq_71 : (.instanceMethod yX4_init : Cond) ∈ tables_1 := it1 (m81 (m81 (m9 (mt (mt (mt (mt (mt (mt (mt (mt mh)))))))))))
theorem tq_72 : ((Jvm.Cond.code ({ cls := "TickPools$Pool", name := "<init>", desc := "()V" } : Jvm.MethodName) prog_6_method_1_code (1 : Nat) (Option.none : Option Jvm.ClassFile.FieldType)) : Cond) ∈ tables_1 := it1 (m81 (m81 (m9 (m9 mh))))
theorem tq_73 : (.methodLink "TickPools$Pool" 3 ⟨"java/lang/Object", "<init>", "()V"⟩ : Cond) ∈ tables_1 := it1 (m81 (m81 (m9 (m9 (mt mh)))))
theorem tq_74 : (.fieldLink "TickPools$Pool" 44 "TickPools$Pool" "first" "I" : Cond) ∈ tables_1 := it1 (m81 (m81 (m9 (m9 (mt (mt mh))))))
theorem tq_75 : (.fieldLink "TickPools$MarketReader" 89 "TickPools$Pool" "first" "I" : Cond) ∈ tables_1 := it1 (m81 (m81 (m9 (m9 (mt (mt (mt mh)))))))
theorem tq_76 : (.fieldLink "TickPools" 136 "TickPools$Pool" "first" "I" : Cond) ∈ tables_1 := it1 (m81 (m81 (m9 (m9 (mt (mt (mt (mt mh))))))))
theorem tq_77 : (.fieldLink "TickPools$Market" 138 "TickPools$Pool" "first" "I" : Cond) ∈ tables_1 := it1 (m81 (m81 (m9 (m9 (mt (mt (mt (mt (mt mh)))))))))
theorem tq_78 : (.fieldLink "TickPools$Pool" 47 "TickPools$Pool" "second" "I" : Cond) ∈ tables_1 := it1 (m81 (m81 (m9 (m9 (mt (mt (mt (mt (mt (mt mh))))))))))
theorem tq_79 : (.fieldLink "TickPools$MarketReader" 97 "TickPools$Pool" "second" "I" : Cond) ∈ tables_1 := it1 (m81 (m81 (m9 (m9 (mt (mt (mt (mt (mt (mt (mt mh)))))))))))
theorem tq_80 : (.fieldLink "TickPools" 141 "TickPools$Pool" "second" "I" : Cond) ∈ tables_1 := it1 (m81 (m81 (m9 (m9 (mt (mt (mt (mt (mt (mt (mt (mt mh))))))))))))
theorem tq_81 : (.fieldLink "TickPools$Market" 141 "TickPools$Pool" "second" "I" : Cond) ∈ tables_1 := it1 (m81 (m81 (m81 mh)))
theorem tq_82 : (.fieldLink "TickPools$Pool" 50 "TickPools$Pool" "fee" "I" : Cond) ∈ tables_1 := it1 (m81 (m81 (m81 (mt mh))))
theorem tq_83 : (.fieldLink "TickPools$Trade" 108 "TickPools$Pool" "fee" "I" : Cond) ∈ tables_1 := it1 (m81 (m81 (m81 (mt (mt mh)))))
theorem tq_84 : (.fieldLink "TickPools$MarketReader" 100 "TickPools$Pool" "fee" "I" : Cond) ∈ tables_1 := it1 (m81 (m81 (m81 (mt (mt (mt mh))))))
theorem tq_85 : (.fieldLink "TickPools" 144 "TickPools$Pool" "fee" "I" : Cond) ∈ tables_1 := it1 (m81 (m81 (m81 (mt (mt (mt (mt mh)))))))
theorem tq_86 : (.fieldLink "TickPools$Runner" 222 "TickPools$Pool" "fee" "I" : Cond) ∈ tables_1 := it1 (m81 (m81 (m81 (mt (mt (mt (mt (mt mh))))))))
theorem tq_87 : (.fieldLink "TickPools$Pool" 53 "TickPools$Pool" "cut" "I" : Cond) ∈ tables_1 := it1 (m81 (m81 (m81 (mt (mt (mt (mt (mt (mt mh)))))))))
theorem tq_88 : (.fieldLink "TickPools$MarketReader" 103 "TickPools$Pool" "cut" "I" : Cond) ∈ tables_1 := it1 (m81 (m81 (m81 (mt (mt (mt (mt (mt (mt (mt mh))))))))))
theorem tq_89 : (.fieldLink "TickPools" 147 "TickPools$Pool" "cut" "I" : Cond) ∈ tables_1 := it1 (m81 (m81 (m81 (mt (mt (mt (mt (mt (mt (mt (mt mh)))))))))))
theorem tq_90 : (.fieldLink "TickPools$Market" 186 "TickPools$Pool" "cut" "I" : Cond) ∈ tables_1 := it1 (m81 (m81 (m81 (m9 mh))))
theorem tq_91 : (.fieldLink "TickPools$Pool" 56 "TickPools$Pool" "spacing" "I" : Cond) ∈ tables_1 := it1 (m81 (m81 (m81 (m9 (mt mh)))))
theorem tq_92 : (.fieldLink "TickPools$MarketReader" 106 "TickPools$Pool" "spacing" "I" : Cond) ∈ tables_1 := it1 (m81 (m81 (m81 (m9 (mt (mt mh))))))
theorem tq_93 : (.fieldLink "TickPools" 150 "TickPools$Pool" "spacing" "I" : Cond) ∈ tables_1 := it1 (m81 (m81 (m81 (m9 (mt (mt (mt mh)))))))
theorem tq_94 : (.fieldLink "TickPools$Market" 151 "TickPools$Pool" "spacing" "I" : Cond) ∈ tables_1 := it1 (m81 (m81 (m81 (m9 (mt (mt (mt (mt mh))))))))
theorem tq_95 : (.fieldLink "TickPools$Pool" 30 "TickPools$Pool" "root" "I" : Cond) ∈ tables_1 := it1 (m81 (m81 (m81 (m9 (mt (mt (mt (mt (mt mh)))))))))
theorem tq_96 : (.fieldLink "TickPools$Trade" 87 "TickPools$Pool" "root" "I" : Cond) ∈ tables_1 := it1 (m81 (m81 (m81 (m9 (mt (mt (mt (mt (mt (mt mh))))))))))
theorem tq_97 : (.fieldLink "TickPools$Stake" 56 "TickPools$Pool" "root" "I" : Cond) ∈ tables_1 := it1 (m81 (m81 (m81 (m9 (mt (mt (mt (mt (mt (mt (mt mh)))))))))))
theorem tq_98 : (.fieldLink "TickPools" 156 "TickPools$Pool" "root" "I" : Cond) ∈ tables_1 := it1 (m81 (m81 (m81 (m9 (mt (mt (mt (mt (mt (mt (mt (mt mh))))))))))))
theorem tq_99 : (.fieldLink "TickPools$Pool" 38 "TickPools$Pool" "zone" "I" : Cond) ∈ tables_1 := it1 (m81 (m81 (m81 (m9 (m9 mh)))))
theorem tq_100 : (.fieldLink "TickPools$Trade" 93 "TickPools$Pool" "zone" "I" : Cond) ∈ tables_1 := it1 (m81 (m81 (m81 (m9 (m9 (mt mh))))))
theorem tq_101 : (.fieldLink "TickPools$Stake" 45 "TickPools$Pool" "zone" "I" : Cond) ∈ tables_1 := it1 (m81 (m81 (m81 (m9 (m9 (mt (mt mh)))))))
theorem tq_102 : (.fieldLink "TickPools" 153 "TickPools$Pool" "zone" "I" : Cond) ∈ tables_1 := it1 (m81 (m81 (m81 (m9 (m9 (mt (mt (mt mh))))))))
theorem tq_103 : (.fieldLink "TickPools$Runner" 197 "TickPools$Pool" "zone" "I" : Cond) ∈ tables_1 := it1 (m81 (m81 (m81 (m9 (m9 (mt (mt (mt (mt mh)))))))))
theorem tq_104 : (.fieldLink "TickPools$Market" 179 "TickPools$Pool" "zone" "I" : Cond) ∈ tables_1 := it1 (m81 (m81 (m81 (m9 (m9 (mt (mt (mt (mt (mt mh))))))))))
theorem tq_105 : (.fieldLink "TickPools$Pool" 41 "TickPools$Pool" "marks" "I" : Cond) ∈ tables_1 := it1 (m81 (m81 (m81 (m9 (m9 (mt (mt (mt (mt (mt (mt mh)))))))))))
theorem tq_106 : (.fieldLink "TickPools$Pool" 9 "TickPools$Pool" "held" "[I" : Cond) ∈ tables_1 := it1 (m81 (m81 (m81 (m9 (m9 (mt (mt (mt (mt (mt (mt (mt mh))))))))))))
theorem tq_107 : (.fieldLink "TickPools" 163 "TickPools$Pool" "held" "[I" : Cond) ∈ tables_1 := it1 (m81 (m81 (m81 (m9 (m9 (mt (mt (mt (mt (mt (mt (mt (mt mh)))))))))))))
theorem tq_108 : (.fieldLink "TickPools$Market" 65 "TickPools$Pool" "held" "[I" : Cond) ∈ tables_1 := it1 (m81 (m81 (m81 (m81 mh))))
theorem tq_109 : (.fieldLink "TickPools$Trade" 152 "TickPools$Pool" "held" "[I" : Cond) ∈ tables_1 := it1 (m81 (m81 (m81 (m81 (mt mh)))))
theorem tq_110 : (.fieldLink "TickPools$Pool" 15 "TickPools$Pool" "house" "[I" : Cond) ∈ tables_1 := it1 (m81 (m81 (m81 (m81 (mt (mt mh))))))
theorem tq_111 : (.fieldLink "TickPools" 167 "TickPools$Pool" "house" "[I" : Cond) ∈ tables_1 := it1 (m81 (m81 (m81 (m81 (mt (mt (mt mh)))))))
theorem tq_112 : (.fieldLink "TickPools$Market" 106 "TickPools$Pool" "house" "[I" : Cond) ∈ tables_1 := it1 (m81 (m81 (m81 (m81 (mt (mt (mt (mt mh))))))))
theorem tq_113 : (.fieldLink "TickPools$Pool" 18 "TickPools$Pool" "markTime" "[I" : Cond) ∈ tables_1 := it1 (m81 (m81 (m81 (m81 (mt (mt (mt (mt (mt mh)))))))))
theorem tq_114 : (.fieldLink "TickPools$Pool" 21 "TickPools$Pool" "markSum" "[I" : Cond) ∈ tables_1 := it1 (m81 (m81 (m81 (m81 (mt (mt (mt (mt (mt (mt mh))))))))))
theorem tq_115 : (.lays "TickPools$Pool" "TickPools$Pool" "first" "I" : Cond) ∈ tables_1 := it1 (m81 (m81 (m81 (m81 (mt (mt (mt (mt (mt (mt (mt mh)))))))))))
theorem tq_117 : (.lays "TickPools$Pool" "TickPools$Pool" "second" "I" : Cond) ∈ tables_1 := it1 (m81 (m81 (m81 (m81 (m9 mh)))))
theorem tq_119 : (.lays "TickPools$Pool" "TickPools$Pool" "fee" "I" : Cond) ∈ tables_1 := it1 (m81 (m81 (m81 (m81 (m9 (mt (mt mh)))))))
theorem tq_121 : (.lays "TickPools$Pool" "TickPools$Pool" "cut" "I" : Cond) ∈ tables_1 := it1 (m81 (m81 (m81 (m81 (m9 (mt (mt (mt (mt mh)))))))))
theorem tq_123 : (.lays "TickPools$Pool" "TickPools$Pool" "spacing" "I" : Cond) ∈ tables_1 := it1 (m81 (m81 (m81 (m81 (m9 (mt (mt (mt (mt (mt (mt mh)))))))))))
theorem tq_125 : (.lays "TickPools$Pool" "TickPools$Pool" "root" "I" : Cond) ∈ tables_1 := it1 (m81 (m81 (m81 (m81 (m9 (mt (mt (mt (mt (mt (mt (mt (mt mh)))))))))))))
theorem tq_127 : (.lays "TickPools$Pool" "TickPools$Pool" "zone" "I" : Cond) ∈ tables_1 := it1 (m81 (m81 (m81 (m81 (m9 (m9 (mt mh)))))))
theorem tq_129 : (.lays "TickPools$Pool" "TickPools$Pool" "marks" "I" : Cond) ∈ tables_1 := it1 (m81 (m81 (m81 (m81 (m9 (m9 (mt (mt (mt mh)))))))))
theorem tq_131 : (.laysFinal "TickPools$Pool" "TickPools$Pool" "held" "[I" : Cond) ∈ tables_1 := it1 (m81 (m81 (m81 (m81 (m9 (m9 (mt (mt (mt (mt (mt mh)))))))))))
theorem tq_133 : (.laysFinal "TickPools$Pool" "TickPools$Pool" "house" "[I" : Cond) ∈ tables_1 := it1 (m81 (m81 (m81 (m81 (m9 (m9 (mt (mt (mt (mt (mt (mt (mt mh)))))))))))))
theorem tq_135 : (.laysFinal "TickPools$Pool" "TickPools$Pool" "markTime" "[I" : Cond) ∈ tables_1 := it1 (m81 (m81 (m81 (m81 (m81 mh)))))
theorem tq_137 : (.laysFinal "TickPools$Pool" "TickPools$Pool" "markSum" "[I" : Cond) ∈ tables_1 := it1 (m81 (m81 (m81 (m81 (m81 (mt (mt mh)))))))
theorem tq_140 : (.arrayClass Jvm.ClassFile.FieldType.int : Cond) ∈ tables_1 := it1 (m81 (m81 (m81 (m81 (m81 (mt (mt (mt (mt (mt mh))))))))))
theorem tq_141 : (.classLink "TickPools$Market" 22 "TickPools$Stake" : Cond) ∈ tables_1 := it1 (m81 (m81 (m81 (m81 (m81 (mt (mt (mt (mt (mt (mt mh)))))))))))
theorem tq_142 : (.arrayOver (Jvm.ClassFile.FieldType.object "TickPools$Stake") : Cond) ∈ tables_1 := it1 (m81 (m81 (m81 (m81 (m81 (mt (mt (mt (mt (mt (mt (mt mh))))))))))))
theorem tq_143 : (.instantiable "TickPools$Stake" 8 : Cond) ∈ tables_1 := it1 (m81 (m81 (m81 (m81 (m81 (mt (mt (mt (mt (mt (mt (mt (mt mh)))))))))))))
theorem tq_144 : (.methodLink "TickPools$Market" 28 yX7_init : Cond) ∈ tables_1 := it1 (m81 (m81 (m81 (m81 (m81 (m9 mh))))))
theorem tq_145 : (.instanceMethod yX7_init : Cond) ∈ tables_1 := it1 (m81 (m81 (m81 (m81 (m81 (m9 (mt mh)))))))
theorem tq_146 : ((Jvm.Cond.code ({ cls := "TickPools$Stake", name := "<init>", desc := "()V" } : Jvm.MethodName) prog_9_method_1_code (1 : Nat) (Option.none : Option Jvm.ClassFile.FieldType)) : Cond) ∈ tables_1 := it1 (m81 (m81 (m81 (m81 (m81 (m9 (mt (mt mh))))))))
theorem tq_147 : (.methodLink "TickPools$Stake" 1 ⟨"java/lang/Object", "<init>", "()V"⟩ : Cond) ∈ tables_1 := it1 (m81 (m81 (m81 (m81 (m81 (m9 (mt (mt (mt mh)))))))))
theorem tq_148 : (.fieldLink "TickPools$Stake" 16 "TickPools$Stake" "person" "I" : Cond) ∈ tables_1 := it1 (m81 (m81 (m81 (m81 (m81 (m9 (mt (mt (mt (mt mh))))))))))
theorem tq_149 : (.fieldLink "TickPools" 185 "TickPools$Stake" "person" "I" : Cond) ∈ tables_1 := it1 (m81 (m81 (m81 (m81 (m81 (m9 (mt (mt (mt (mt (mt mh)))))))))))
theorem tq_150 : (.fieldLink "TickPools$Market" 165 "TickPools$Stake" "person" "I" : Cond) ∈ tables_1 := it1 (m81 (m81 (m81 (m81 (m81 (m9 (mt (mt (mt (mt (mt (mt mh))))))))))))
theorem tq_151 : (.fieldLink "TickPools$Stake" 20 "TickPools$Stake" "pool" "I" : Cond) ∈ tables_1 := it1 (m81 (m81 (m81 (m81 (m81 (m9 (mt (mt (mt (mt (mt (mt (mt mh)))))))))))))
theorem tq_152 : (.fieldLink "TickPools" 180 "TickPools$Stake" "pool" "I" : Cond) ∈ tables_1 := it1 (m81 (m81 (m81 (m81 (m81 (m9 (mt (mt (mt (mt (mt (mt (mt (mt mh))))))))))))))
theorem tq_153 : (.fieldLink "TickPools$Market" 86 "TickPools$Stake" "pool" "I" : Cond) ∈ tables_1 := it1 (m81 (m81 (m81 (m81 (m81 (m9 (m9 mh)))))))
theorem tq_154 : (.fieldLink "TickPools$Stake" 23 "TickPools$Stake" "low" "I" : Cond) ∈ tables_1 := it1 (m81 (m81 (m81 (m81 (m81 (m9 (m9 (mt mh))))))))
theorem tq_155 : (.fieldLink "TickPools" 188 "TickPools$Stake" "low" "I" : Cond) ∈ tables_1 := it1 (m81 (m81 (m81 (m81 (m81 (m9 (m9 (mt (mt mh)))))))))
theorem tq_156 : (.fieldLink "TickPools$Market" 89 "TickPools$Stake" "low" "I" : Cond) ∈ tables_1 := it1 (m81 (m81 (m81 (m81 (m81 (m9 (m9 (mt (mt (mt mh))))))))))
theorem tq_157 : (.fieldLink "TickPools$Stake" 26 "TickPools$Stake" "high" "I" : Cond) ∈ tables_1 := it1 (m81 (m81 (m81 (m81 (m81 (m9 (m9 (mt (mt (mt (mt mh)))))))))))
theorem tq_158 : (.fieldLink "TickPools" 191 "TickPools$Stake" "high" "I" : Cond) ∈ tables_1 := it1 (m81 (m81 (m81 (m81 (m81 (m9 (m9 (mt (mt (mt (mt (mt mh))))))))))))
theorem tq_159 : (.fieldLink "TickPools$Market" 92 "TickPools$Stake" "high" "I" : Cond) ∈ tables_1 := it1 (m81 (m81 (m81 (m81 (m81 (m9 (m9 (mt (mt (mt (mt (mt (mt mh)))))))))))))
theorem tq_160 : (.fieldLink "TickPools$Stake" 29 "TickPools$Stake" "auto" "I" : Cond) ∈ tables_1 := it1 (m81 (m81 (m81 (m81 (m81 (m9 (m9 (mt (mt (mt (mt (mt (mt (mt mh))))))))))))))
theorem tq_161 : (.fieldLink "TickPools" 194 "TickPools$Stake" "auto" "I" : Cond) ∈ tables_1 := it1 (m81 (m81 (m81 (m81 (m81 (m9 (m9 (mt (mt (mt (mt (mt (mt (mt (mt mh)))))))))))))))
theorem tq_162 : (.fieldLink "TickPools$Market" 172 "TickPools$Stake" "auto" "I" : Cond) ∈ tables_1 := it1 (m81 (m81 (m81 (m81 (m81 (m81 mh))))))
theorem tq_163 : (.fieldLink "TickPools$Stake" 32 "TickPools$Stake" "liquidity" "I" : Cond) ∈ tables_1 := it1 (m81 (m81 (m81 (m81 (m81 (m81 (mt mh)))))))
theorem tq_164 : (.fieldLink "TickPools" 197 "TickPools$Stake" "liquidity" "I" : Cond) ∈ tables_1 := it1 (m81 (m81 (m81 (m81 (m81 (m81 (mt (mt mh))))))))
theorem tq_165 : (.fieldLink "TickPools$Runner" 188 "TickPools$Stake" "liquidity" "I" : Cond) ∈ tables_1 := it1 (m81 (m81 (m81 (m81 (m81 (m81 (mt (mt (mt mh)))))))))
theorem tq_166 : (.fieldLink "TickPools$Market" 95 "TickPools$Stake" "liquidity" "I" : Cond) ∈ tables_1 := it1 (m81 (m81 (m81 (m81 (m81 (m81 (mt (mt (mt (mt mh))))))))))
theorem tq_167 : (.fieldLink "TickPools$Stake" 7 "TickPools$Stake" "gain" "[J" : Cond) ∈ tables_1 := it1 (m81 (m81 (m81 (m81 (m81 (m81 (mt (mt (mt (mt (mt mh)))))))))))
theorem tq_168 : (.fieldLink "TickPools$Market" 196 "TickPools$Stake" "gain" "[J" : Cond) ∈ tables_1 := it1 (m81 (m81 (m81 (m81 (m81 (m81 (mt (mt (mt (mt (mt (mt mh))))))))))))
theorem tq_169 : (.fieldLink "TickPools$Stake" 13 "TickPools$Stake" "debt" "[J" : Cond) ∈ tables_1 := it1 (m81 (m81 (m81 (m81 (m81 (m81 (mt (mt (mt (mt (mt (mt (mt mh)))))))))))))
theorem tq_170 : (.fieldLink "TickPools" 225 "TickPools$Stake" "debt" "[J" : Cond) ∈ tables_1 := it1 (m81 (m81 (m81 (m81 (m81 (m81 (mt (mt (mt (mt (mt (mt (mt (mt mh))))))))))))))
theorem tq_171 : (.fieldLink "TickPools$Market" 161 "TickPools$Stake" "debt" "[J" : Cond) ∈ tables_1 := it1 (m81 (m81 (m81 (m81 (m81 (m81 (m9 mh)))))))
theorem tq_172 : (.lays "TickPools$Stake" "TickPools$Stake" "person" "I" : Cond) ∈ tables_1 := it1 (m81 (m81 (m81 (m81 (m81 (m81 (m9 (mt mh))))))))
theorem tq_174 : (.lays "TickPools$Stake" "TickPools$Stake" "pool" "I" : Cond) ∈ tables_1 := it1 (m81 (m81 (m81 (m81 (m81 (m81 (m9 (mt (mt (mt mh))))))))))
theorem tq_176 : (.lays "TickPools$Stake" "TickPools$Stake" "low" "I" : Cond) ∈ tables_1 := it1 (m81 (m81 (m81 (m81 (m81 (m81 (m9 (mt (mt (mt (mt (mt mh))))))))))))
theorem tq_178 : (.lays "TickPools$Stake" "TickPools$Stake" "high" "I" : Cond) ∈ tables_1 := it1 (m81 (m81 (m81 (m81 (m81 (m81 (m9 (mt (mt (mt (mt (mt (mt (mt mh))))))))))))))
theorem tq_180 : (.lays "TickPools$Stake" "TickPools$Stake" "auto" "I" : Cond) ∈ tables_1 := it1 (m81 (m81 (m81 (m81 (m81 (m81 (m9 (m9 mh))))))))
theorem tq_182 : (.lays "TickPools$Stake" "TickPools$Stake" "liquidity" "I" : Cond) ∈ tables_1 := it1 (m81 (m81 (m81 (m81 (m81 (m81 (m9 (m9 (mt (mt mh))))))))))
theorem tq_184 : (.laysFinal "TickPools$Stake" "TickPools$Stake" "gain" "[J" : Cond) ∈ tables_1 := it1 (m81 (m81 (m81 (m81 (m81 (m81 (m9 (m9 (mt (mt (mt (mt mh))))))))))))
theorem tq_186 : (.laysFinal "TickPools$Stake" "TickPools$Stake" "debt" "[J" : Cond) ∈ tables_1 := it1 (m81 (m81 (m81 (m81 (m81 (m81 (m9 (m9 (mt (mt (mt (mt (mt (mt mh))))))))))))))
theorem tq_189 : (.arrayClass Jvm.ClassFile.FieldType.long : Cond) ∈ tables_1 := it1 (m81 (m81 (m81 (m81 (m81 (m81 (m81 mh)))))))
theorem tq_190 : (.fieldLink "TickPools$Market" 29 "TickPools$Market" "things" "I" : Cond) ∈ tables_1 := it1 (m81 (m81 (m81 (m81 (m81 (m81 (m81 (mt mh))))))))
theorem tq_191 : (.fieldLink "TickPools$MarketReader" 79 "TickPools$Market" "things" "I" : Cond) ∈ tables_1 := it1 (m81 (m81 (m81 (m81 (m81 (m81 (m81 (mt (mt mh)))))))))
theorem tq_192 : (.fieldLink "TickPools" 260 "TickPools$Market" "things" "I" : Cond) ∈ tables_1 := it1 (m81 (m81 (m81 (m81 (m81 (m81 (m81 (mt (mt (mt mh))))))))))
theorem tq_193 : (.fieldLink "TickPools$Market" 33 "TickPools$Market" "people" "I" : Cond) ∈ tables_1 := it1 (m81 (m81 (m81 (m81 (m81 (m81 (m81 (mt (mt (mt (mt mh)))))))))))
theorem tq_194 : (.fieldLink "TickPools$MarketReader" 82 "TickPools$Market" "people" "I" : Cond) ∈ tables_1 := it1 (m81 (m81 (m81 (m81 (m81 (m81 (m81 (mt (mt (mt (mt (mt mh))))))))))))
theorem tq_195 : (.fieldLink "TickPools" 324 "TickPools$Market" "people" "I" : Cond) ∈ tables_1 := it1 (m81 (m81 (m81 (m81 (m81 (m81 (m81 (mt (mt (mt (mt (mt (mt mh)))))))))))))
theorem tq_196 : (.fieldLink "TickPools$Market" 36 "TickPools$Market" "pools" "I" : Cond) ∈ tables_1 := it1 (m81 (m81 (m81 (m81 (m81 (m81 (m81 (mt (mt (mt (mt (mt (mt (mt mh))))))))))))))
theorem tq_197 : (.fieldLink "TickPools$MarketReader" 59 "TickPools$Market" "pools" "I" : Cond) ∈ tables_1 := it1 (m81 (m81 (m81 (m81 (m81 (m81 (m81 (mt (mt (mt (mt (mt (mt (mt (mt mh)))))))))))))))
theorem tq_198 : (.fieldLink "TickPools" 91 "TickPools$Market" "pools" "I" : Cond) ∈ tables_1 := it1 (m81 (m81 (m81 (m81 (m81 (m81 (m81 (m9 mh))))))))
theorem tq_199 : (.fieldLink "TickPools$Finder" 44 "TickPools$Market" "pools" "I" : Cond) ∈ tables_1 := it1 (m81 (m81 (m81 (m81 (m81 (m81 (m81 (m9 (mt mh)))))))))
theorem tq_200 : (.fieldLink "TickPools$Market" 39 "TickPools$Market" "stakes" "I" : Cond) ∈ tables_1 := it1 (m81 (m81 (m81 (m81 (m81 (m81 (m81 (m9 (mt (mt mh))))))))))
theorem tq_201 : (.fieldLink "TickPools" 219 "TickPools$Market" "stakes" "I" : Cond) ∈ tables_1 := it1 (m81 (m81 (m81 (m81 (m81 (m81 (m81 (m9 (mt (mt (mt mh)))))))))))
theorem tq_202 : (.fieldLink "TickPools$Market" 42 "TickPools$Market" "time" "I" : Cond) ∈ tables_1 := it1 (m81 (m81 (m81 (m81 (m81 (m81 (m81 (m9 (mt (mt (mt (mt mh))))))))))))
theorem tq_203 : (.fieldLink "TickPools$Trade" 94 "TickPools$Market" "time" "I" : Cond) ∈ tables_1 := it1 (m81 (m81 (m81 (m81 (m81 (m81 (m81 (m9 (mt (mt (mt (mt (mt mh)))))))))))))
theorem tq_204 : (.fieldLink "TickPools" 263 "TickPools$Market" "time" "I" : Cond) ∈ tables_1 := it1 (m81 (m81 (m81 (m81 (m81 (m81 (m81 (m9 (mt (mt (mt (mt (mt (mt mh))))))))))))))
theorem tq_205 : (.fieldLink "TickPools$Market" 45 "TickPools$Market" "crossed" "I" : Cond) ∈ tables_1 := it1 (m81 (m81 (m81 (m81 (m81 (m81 (m81 (m9 (mt (mt (mt (mt (mt (mt (mt mh)))))))))))))))
theorem tq_206 : (.fieldLink "TickPools$Trade" 151 "TickPools$Market" "crossed" "I" : Cond) ∈ tables_1 := it1 (m81 (m81 (m81 (m81 (m81 (m81 (m81 (m9 (mt (mt (mt (mt (mt (mt (mt (mt mh))))))))))))))))
theorem tq_207 : (.fieldLink "TickPools" 327 "TickPools$Market" "crossed" "I" : Cond) ∈ tables_1 := it1 (m81 (m81 (m81 (m81 (m81 (m81 (m81 (m9 (m9 mh)))))))))
theorem tq_208 : (.fieldLink "TickPools$Market" 9 "TickPools$Market" "purses" "[I" : Cond) ∈ tables_1 := it1 (m81 (m81 (m81 (m81 (m81 (m81 (m81 (m9 (m9 (mt mh))))))))))
theorem tq_209 : (.fieldLink "TickPools$Market" 17 "TickPools$Market" "poolRow" "[LTickPools$Pool;" : Cond) ∈ tables_1 := it1 (m81 (m81 (m81 (m81 (m81 (m81 (m81 (m9 (m9 (mt (mt mh)))))))))))
theorem tq_210 : (.fieldLink "TickPools$Market" 24 "TickPools$Market" "stakeRow" "[LTickPools$Stake;" : Cond) ∈ tables_1 := it1 (m81 (m81 (m81 (m81 (m81 (m81 (m81 (m9 (m9 (mt (mt (mt mh))))))))))))
theorem tq_211 : (.lays "TickPools$Market" "TickPools$Market" "things" "I" : Cond) ∈ tables_1 := it1 (m81 (m81 (m81 (m81 (m81 (m81 (m81 (m9 (m9 (mt (mt (mt (mt mh)))))))))))))
theorem tq_213 : (.lays "TickPools$Market" "TickPools$Market" "people" "I" : Cond) ∈ tables_1 := it1 (m81 (m81 (m81 (m81 (m81 (m81 (m81 (m9 (m9 (mt (mt (mt (mt (mt (mt mh)))))))))))))))
theorem tq_215 : (.lays "TickPools$Market" "TickPools$Market" "pools" "I" : Cond) ∈ tables_1 := it1 (m81 (m81 (m81 (m81 (m81 (m81 (m81 (m9 (m9 (mt (mt (mt (mt (mt (mt (mt (mt mh)))))))))))))))))
theorem tq_217 : (.lays "TickPools$Market" "TickPools$Market" "stakes" "I" : Cond) ∈ tables_1 := it1 (m81 (m81 (m81 (m81 (m81 (m81 (m81 (m81 (mt mh)))))))))
theorem tq_219 : (.lays "TickPools$Market" "TickPools$Market" "time" "I" : Cond) ∈ tables_1 := it1 (m81 (m81 (m81 (m81 (m81 (m81 (m81 (m81 (mt (mt (mt mh)))))))))))
theorem tq_221 : (.lays "TickPools$Market" "TickPools$Market" "crossed" "I" : Cond) ∈ tables_1 := it1 (m81 (m81 (m81 (m81 (m81 (m81 (m81 (m81 (mt (mt (mt (mt (mt mh)))))))))))))
theorem tq_223 : (.laysFinal "TickPools$Market" "TickPools$Market" "purses" "[I" : Cond) ∈ tables_1 := it1 (m81 (m81 (m81 (m81 (m81 (m81 (m81 (m81 (mt (mt (mt (mt (mt (mt (mt mh)))))))))))))))
theorem tq_225 : (.laysFinal "TickPools$Market" "TickPools$Market" "poolRow" "[LTickPools$Pool;" : Cond) ∈ tables_1 := it1 (m81 (m81 (m81 (m81 (m81 (m81 (m81 (m81 (m9 mh)))))))))
theorem tq_227 : (.laysFinal "TickPools$Market" "TickPools$Market" "stakeRow" "[LTickPools$Stake;" : Cond) ∈ tables_1 := it1 (m81 (m81 (m81 (m81 (m81 (m81 (m81 (m81 (m9 (mt (mt mh)))))))))))
theorem tq_230 : (.classLink "TickPools" 26 "TickPools$Trade" : Cond) ∈ tables_1 := it1 (m81 (m81 (m81 (m81 (m81 (m81 (m81 (m81 (m9 (mt (mt (mt (mt (mt mh))))))))))))))
theorem tq_231 : (.instantiable "TickPools$Trade" 14 : Cond) ∈ tables_1 := it1 (m81 (m81 (m81 (m81 (m81 (m81 (m81 (m81 (m9 (mt (mt (mt (mt (mt (mt mh)))))))))))))))
theorem tq_232 : (.methodLinkNest "TickPools" 28 yX10_init "TickPools" : Cond) ∈ tables_1 := it1 (m81 (m81 (m81 (m81 (m81 (m81 (m81 (m81 (m9 (mt (mt (mt (mt (mt (mt (mt mh))))))))))))))))
theorem tq_233 : (.instanceMethod yX10_init : Cond) ∈ tables_1 := it1 (m81 (m81 (m81 (m81 (m81 (m81 (m81 (m81 (m9 (mt (mt (mt (mt (mt (mt (mt (mt mh)))))))))))))))))
theorem tq_234 : ((Jvm.Cond.code ({ cls := "TickPools$Trade", name := "<init>", desc := "()V" } : Jvm.MethodName) prog_12_method_1_code (1 : Nat) (Option.none : Option Jvm.ClassFile.FieldType)) : Cond) ∈ tables_1 := it1 (m81 (m81 (m81 (m81 (m81 (m81 (m81 (m81 (m9 (m9 mh))))))))))
theorem tq_235 : (.methodLink "TickPools$Trade" 3 ⟨"java/lang/Object", "<init>", "()V"⟩ : Cond) ∈ tables_1 := it1 (m81 (m81 (m81 (m81 (m81 (m81 (m81 (m81 (m9 (m9 (mt mh)))))))))))
theorem tq_236 : (.fieldLink "TickPools$Trade" 40 "TickPools$Trade" "market" "LTickPools$Market;" : Cond) ∈ tables_1 := it1 (m81 (m81 (m81 (m81 (m81 (m81 (m81 (m81 (m9 (m9 (mt (mt mh))))))))))))
theorem tq_237 : (.fieldLink "TickPools$Trade" 67 "TickPools$Trade" "pool" "LTickPools$Pool;" : Cond) ∈ tables_1 := it1 (m81 (m81 (m81 (m81 (m81 (m81 (m81 (m81 (m9 (m9 (mt (mt (mt mh)))))))))))))
theorem tq_238 : (.fieldLink "TickPools$Trade" 44 "TickPools$Trade" "poolNumber" "I" : Cond) ∈ tables_1 := it1 (m81 (m81 (m81 (m81 (m81 (m81 (m81 (m81 (m9 (m9 (mt (mt (mt (mt mh))))))))))))))
theorem tq_239 : (.fieldLink "TickPools$Trade" 15 "TickPools$Trade" "side" "I" : Cond) ∈ tables_1 := it1 (m81 (m81 (m81 (m81 (m81 (m81 (m81 (m81 (m9 (m9 (mt (mt (mt (mt (mt mh)))))))))))))))
theorem tq_240 : (.fieldLink "TickPools$Trade" 34 "TickPools$Trade" "real" "Z" : Cond) ∈ tables_1 := it2 mh
theorem tq_241 : (.fieldLink "TickPools$Trade" 92 "TickPools$Trade" "root" "I" : Cond) ∈ tables_1 := it2 (mt mh)
theorem tq_242 : (.fieldLink "TickPools$Trade" 22 "TickPools$Trade" "atEnd" "Z" : Cond) ∈ tables_1 := it2 (mt (mt mh))
theorem tq_243 : (.fieldLink "TickPools$Trade" 37 "TickPools$Trade" "crossedTick" "I" : Cond) ∈ tables_1 := it2 (mt (mt (mt mh)))
theorem tq_244 : (.fieldLink "TickPools$Trade" 19 "TickPools$Trade" "zone" "I" : Cond) ∈ tables_1 := it2 (mt (mt (mt (mt mh))))
theorem tq_245 : (.fieldLink "TickPools" 281 "TickPools$Trade" "zone" "I" : Cond) ∈ tables_1 := it2 (mt (mt (mt (mt (mt mh)))))
theorem tq_246 : (.fieldLink "TickPools$Trade" 71 "TickPools$Trade" "crossed" "I" : Cond) ∈ tables_1 := it2 (mt (mt (mt (mt (mt (mt mh))))))
theorem tq_247 : (.fieldLink "TickPools" 282 "TickPools$Trade" "crossed" "I" : Cond) ∈ tables_1 := it2 (mt (mt (mt (mt (mt (mt (mt mh)))))))
theorem tq_248 : (.fieldLink "TickPools$Trade" 26 "TickPools$Trade" "left" "J" : Cond) ∈ tables_1 := it2 (mt (mt (mt (mt (mt (mt (mt (mt mh))))))))
theorem tq_249 : (.fieldLink "TickPools$Runner" 174 "TickPools$Trade" "left" "J" : Cond) ∈ tables_1 := it2 (m9 mh)
theorem tq_250 : (.fieldLink "TickPools" 254 "TickPools$Trade" "left" "J" : Cond) ∈ tables_1 := it2 (m9 (mt mh))
theorem tq_251 : (.fieldLink "TickPools$Trade" 74 "TickPools$Trade" "gave" "J" : Cond) ∈ tables_1 := it2 (m9 (mt (mt mh)))
theorem tq_252 : (.fieldLink "TickPools$Finder" 87 "TickPools$Trade" "gave" "J" : Cond) ∈ tables_1 := it2 (m9 (mt (mt (mt mh))))
theorem tq_253 : (.fieldLink "TickPools$Runner" 162 "TickPools$Trade" "gave" "J" : Cond) ∈ tables_1 := it2 (m9 (mt (mt (mt (mt mh)))))
theorem tq_254 : (.fieldLink "TickPools" 243 "TickPools$Trade" "gave" "J" : Cond) ∈ tables_1 := it2 (m9 (mt (mt (mt (mt (mt mh))))))
theorem tq_255 : (.fieldLink "TickPools$Trade" 77 "TickPools$Trade" "paid" "J" : Cond) ∈ tables_1 := it2 (m9 (mt (mt (mt (mt (mt (mt mh)))))))
theorem tq_256 : (.fieldLink "TickPools$Runner" 177 "TickPools$Trade" "paid" "J" : Cond) ∈ tables_1 := it2 (m9 (mt (mt (mt (mt (mt (mt (mt mh))))))))
theorem tq_257 : (.fieldLink "TickPools" 257 "TickPools$Trade" "paid" "J" : Cond) ∈ tables_1 := it2 (m9 (mt (mt (mt (mt (mt (mt (mt (mt mh)))))))))
theorem tq_258 : (.fieldLink "TickPools$Trade" 80 "TickPools$Trade" "fees" "J" : Cond) ∈ tables_1 := it2 (m9 (m9 mh))
theorem tq_259 : (.fieldLink "TickPools" 278 "TickPools$Trade" "fees" "J" : Cond) ∈ tables_1 := it2 (m9 (m9 (mt mh)))
theorem tq_260 : (.lays "TickPools$Trade" "TickPools$Trade" "market" "LTickPools$Market;" : Cond) ∈ tables_1 := it2 (m9 (m9 (mt (mt mh))))
theorem tq_262 : (.lays "TickPools$Trade" "TickPools$Trade" "pool" "LTickPools$Pool;" : Cond) ∈ tables_1 := it2 (m9 (m9 (mt (mt (mt (mt mh))))))
theorem tq_264 : (.lays "TickPools$Trade" "TickPools$Trade" "poolNumber" "I" : Cond) ∈ tables_1 := it2 (m9 (m9 (mt (mt (mt (mt (mt (mt mh))))))))
theorem tq_266 : (.lays "TickPools$Trade" "TickPools$Trade" "side" "I" : Cond) ∈ tables_1 := it2 (m9 (m9 (mt (mt (mt (mt (mt (mt (mt (mt mh))))))))))
theorem tq_268 : (.lays "TickPools$Trade" "TickPools$Trade" "real" "Z" : Cond) ∈ tables_1 := it2 (m81 (mt mh))
theorem tq_270 : (.lays "TickPools$Trade" "TickPools$Trade" "root" "I" : Cond) ∈ tables_1 := it2 (m81 (mt (mt (mt mh))))
theorem tq_272 : (.lays "TickPools$Trade" "TickPools$Trade" "atEnd" "Z" : Cond) ∈ tables_1 := it2 (m81 (mt (mt (mt (mt (mt mh))))))
theorem tq_274 : (.lays "TickPools$Trade" "TickPools$Trade" "crossedTick" "I" : Cond) ∈ tables_1 := it2 (m81 (mt (mt (mt (mt (mt (mt (mt mh))))))))
theorem tq_276 : (.lays "TickPools$Trade" "TickPools$Trade" "zone" "I" : Cond) ∈ tables_1 := it2 (m81 (m9 mh))
theorem tq_278 : (.lays "TickPools$Trade" "TickPools$Trade" "crossed" "I" : Cond) ∈ tables_1 := it2 (m81 (m9 (mt (mt mh))))
theorem tq_280 : (.lays "TickPools$Trade" "TickPools$Trade" "left" "J" : Cond) ∈ tables_1 := it2 (m81 (m9 (mt (mt (mt (mt mh))))))
theorem tq_282 : (.lays "TickPools$Trade" "TickPools$Trade" "gave" "J" : Cond) ∈ tables_1 := it2 (m81 (m9 (mt (mt (mt (mt (mt (mt mh))))))))
theorem tq_284 : (.lays "TickPools$Trade" "TickPools$Trade" "paid" "J" : Cond) ∈ tables_1 := it2 (m81 (m9 (mt (mt (mt (mt (mt (mt (mt (mt mh))))))))))
theorem tq_286 : (.lays "TickPools$Trade" "TickPools$Trade" "fees" "J" : Cond) ∈ tables_1 := it2 (m81 (m9 (m9 (mt mh))))
theorem tq_289 : (.classLink "TickPools" 33 "TickPools$MarketReader" : Cond) ∈ tables_1 := it2 (m81 (m9 (m9 (mt (mt (mt (mt mh)))))))
theorem tq_290 : (.instantiable "TickPools$MarketReader" 2 : Cond) ∈ tables_1 := it2 (m81 (m9 (m9 (mt (mt (mt (mt (mt mh))))))))
theorem tq_291 : (.methodLink "TickPools" 35 yX3_init : Cond) ∈ tables_1 := it2 (m81 (m9 (m9 (mt (mt (mt (mt (mt (mt mh)))))))))
theorem tq_292 : (.instanceMethod yX3_init : Cond) ∈ tables_1 := it2 (m81 (m9 (m9 (mt (mt (mt (mt (mt (mt (mt mh))))))))))
theorem tq_293 : ((Jvm.Cond.code ({ cls := "TickPools$MarketReader", name := "<init>", desc := "(LTickPools$Tape;LTickPools$Market;)V" } : Jvm.MethodName) prog_5_method_1_code (3 : Nat) (Option.none : Option Jvm.ClassFile.FieldType)) : Cond) ∈ tables_1 := it2 (m81 (m9 (m9 (mt (mt (mt (mt (mt (mt (mt (mt mh)))))))))))
theorem tq_294 : (.methodLink "TickPools$MarketReader" 3 ⟨"java/lang/Object", "<init>", "()V"⟩ : Cond) ∈ tables_1 := it2 (m81 (m81 mh))
theorem tq_295 : (.fieldLink "TickPools$MarketReader" 9 "TickPools$MarketReader" "tape" "LTickPools$Tape;" : Cond) ∈ tables_1 := it2 (m81 (m81 (mt mh)))
theorem tq_296 : (.fieldLink "TickPools$MarketReader" 15 "TickPools$MarketReader" "market" "LTickPools$Market;" : Cond) ∈ tables_1 := it2 (m81 (m81 (mt (mt mh))))
theorem tq_297 : (.laysFinal "TickPools$MarketReader" "TickPools$MarketReader" "tape" "LTickPools$Tape;" : Cond) ∈ tables_1 := it2 (m81 (m81 (mt (mt (mt mh)))))
theorem tq_299 : (.laysFinal "TickPools$MarketReader" "TickPools$MarketReader" "market" "LTickPools$Market;" : Cond) ∈ tables_1 := it2 (m81 (m81 (mt (mt (mt (mt (mt mh)))))))
theorem tq_302 : (.classLink "TickPools" 42 "TickPools$Script" : Cond) ∈ tables_1 := it2 (m81 (m81 (mt (mt (mt (mt (mt (mt (mt (mt mh))))))))))
theorem tq_303 : (.instantiable "TickPools$Script" 5 : Cond) ∈ tables_1 := it2 (m81 (m81 (m9 mh)))
theorem tq_304 : (.methodLink "TickPools" 44 yX6_init : Cond) ∈ tables_1 := it2 (m81 (m81 (m9 (mt mh))))
theorem tq_305 : (.instanceMethod yX6_init : Cond) ∈ tables_1 := it2 (m81 (m81 (m9 (mt (mt mh)))))
theorem tq_306 : ((Jvm.Cond.code ({ cls := "TickPools$Script", name := "<init>", desc := "(LTickPools$Tape;)V" } : Jvm.MethodName) prog_8_method_1_code (3 : Nat) (Option.none : Option Jvm.ClassFile.FieldType)) : Cond) ∈ tables_1 := it2 (m81 (m81 (m9 (mt (mt (mt mh))))))
theorem tq_307 : (.methodLink "TickPools$Script" 3 ⟨"java/lang/Object", "<init>", "()V"⟩ : Cond) ∈ tables_1 := it2 (m81 (m81 (m9 (mt (mt (mt (mt mh)))))))
theorem tq_308 : (.classLink "TickPools$Script" 15 "TickPools$Step" : Cond) ∈ tables_1 := it2 (m81 (m81 (m9 (mt (mt (mt (mt (mt mh))))))))
theorem tq_309 : (.arrayOver (Jvm.ClassFile.FieldType.object "TickPools$Step") : Cond) ∈ tables_1 := it2 (m81 (m81 (m9 (mt (mt (mt (mt (mt (mt mh)))))))))
theorem tq_310 : (.instantiable "TickPools$Step" 10 : Cond) ∈ tables_1 := it2 (m81 (m81 (m9 (mt (mt (mt (mt (mt (mt (mt mh))))))))))
theorem tq_311 : (.methodLinkNest "TickPools$Script" 21 yX8_init "TickPools" : Cond) ∈ tables_1 := it2 (m81 (m81 (m9 (mt (mt (mt (mt (mt (mt (mt (mt mh)))))))))))
theorem tq_312 : (.instanceMethod yX8_init : Cond) ∈ tables_1 := it2 (m81 (m81 (m9 (m9 mh))))
theorem tq_313 : ((Jvm.Cond.code ({ cls := "TickPools$Step", name := "<init>", desc := "()V" } : Jvm.MethodName) prog_10_method_1_code (1 : Nat) (Option.none : Option Jvm.ClassFile.FieldType)) : Cond) ∈ tables_1 := it2 (m81 (m81 (m9 (m9 (mt mh)))))
theorem tq_314 : (.methodLink "TickPools$Step" 1 ⟨"java/lang/Object", "<init>", "()V"⟩ : Cond) ∈ tables_1 := it2 (m81 (m81 (m9 (m9 (mt (mt mh))))))
theorem tq_315 : (.fieldLink "TickPools$Step" 7 "TickPools$Step" "kind" "I" : Cond) ∈ tables_1 := it2 (m81 (m81 (m9 (m9 (mt (mt (mt mh)))))))
theorem tq_316 : (.fieldLink "TickPools$Runner" 79 "TickPools$Step" "kind" "I" : Cond) ∈ tables_1 := it2 (m81 (m81 (m9 (m9 (mt (mt (mt (mt mh))))))))
theorem tq_317 : (.fieldLink "TickPools$Script" 78 "TickPools$Step" "kind" "I" : Cond) ∈ tables_1 := it2 (m81 (m81 (m9 (m9 (mt (mt (mt (mt (mt mh)))))))))
theorem tq_318 : (.fieldLink "TickPools$Runner" 130 "TickPools$Step" "place" "I" : Cond) ∈ tables_1 := it2 (m81 (m81 (m9 (m9 (mt (mt (mt (mt (mt (mt mh))))))))))
theorem tq_319 : (.fieldLink "TickPools$Script" 84 "TickPools$Step" "place" "I" : Cond) ∈ tables_1 := it2 (m81 (m81 (m9 (m9 (mt (mt (mt (mt (mt (mt (mt mh)))))))))))
theorem tq_320 : (.fieldLink "TickPools$Runner" 89 "TickPools$Step" "pool" "I" : Cond) ∈ tables_1 := it2 (m81 (m81 (m9 (m9 (mt (mt (mt (mt (mt (mt (mt (mt mh))))))))))))
theorem tq_321 : (.fieldLink "TickPools$Script" 130 "TickPools$Step" "pool" "I" : Cond) ∈ tables_1 := it2 (m81 (m81 (m81 mh)))
theorem tq_322 : (.fieldLink "TickPools$Script" 133 "TickPools$Step" "side" "I" : Cond) ∈ tables_1 := it2 (m81 (m81 (m81 (mt mh))))
theorem tq_323 : (.fieldLink "TickPools$Runner" 140 "TickPools$Step" "side" "I" : Cond) ∈ tables_1 := it2 (m81 (m81 (m81 (mt (mt mh)))))
theorem tq_324 : (.fieldLink "TickPools$Runner" 96 "TickPools$Step" "low" "I" : Cond) ∈ tables_1 := it2 (m81 (m81 (m81 (mt (mt (mt mh))))))
theorem tq_325 : (.fieldLink "TickPools$Script" 136 "TickPools$Step" "low" "I" : Cond) ∈ tables_1 := it2 (m81 (m81 (m81 (mt (mt (mt (mt mh)))))))
theorem tq_326 : (.fieldLink "TickPools$Runner" 99 "TickPools$Step" "high" "I" : Cond) ∈ tables_1 := it2 (m81 (m81 (m81 (mt (mt (mt (mt (mt mh))))))))
theorem tq_327 : (.fieldLink "TickPools$Script" 139 "TickPools$Step" "high" "I" : Cond) ∈ tables_1 := it2 (m81 (m81 (m81 (mt (mt (mt (mt (mt (mt mh)))))))))
theorem tq_328 : (.fieldLink "TickPools$Runner" 114 "TickPools$Step" "thing" "I" : Cond) ∈ tables_1 := it2 (m81 (m81 (m81 (mt (mt (mt (mt (mt (mt (mt mh))))))))))
theorem tq_329 : (.fieldLink "TickPools$Script" 142 "TickPools$Step" "thing" "I" : Cond) ∈ tables_1 := it2 (m81 (m81 (m81 (mt (mt (mt (mt (mt (mt (mt (mt mh)))))))))))
theorem tq_330 : (.fieldLink "TickPools$Runner" 102 "TickPools$Step" "amount" "I" : Cond) ∈ tables_1 := it2 (m81 (m81 (m81 (m9 mh))))
theorem tq_331 : (.fieldLink "TickPools$Script" 146 "TickPools$Step" "amount" "I" : Cond) ∈ tables_1 := it2 (m81 (m81 (m81 (m9 (mt mh)))))
theorem tq_332 : (.fieldLink "TickPools$Runner" 133 "TickPools$Step" "much" "I" : Cond) ∈ tables_1 := it2 (m81 (m81 (m81 (m9 (mt (mt mh))))))
theorem tq_333 : (.fieldLink "TickPools$Script" 149 "TickPools$Step" "much" "I" : Cond) ∈ tables_1 := it2 (m81 (m81 (m81 (m9 (mt (mt (mt mh)))))))
theorem tq_334 : (.fieldLink "TickPools$Runner" 66 "TickPools$Step" "after" "I" : Cond) ∈ tables_1 := it2 (m81 (m81 (m81 (m9 (mt (mt (mt (mt mh))))))))
theorem tq_335 : (.fieldLink "TickPools$Script" 66 "TickPools$Step" "after" "I" : Cond) ∈ tables_1 := it2 (m81 (m81 (m81 (m9 (mt (mt (mt (mt (mt mh)))))))))
theorem tq_336 : (.lays "TickPools$Step" "TickPools$Step" "kind" "I" : Cond) ∈ tables_1 := it2 (m81 (m81 (m81 (m9 (mt (mt (mt (mt (mt (mt mh))))))))))
theorem tq_338 : (.lays "TickPools$Step" "TickPools$Step" "place" "I" : Cond) ∈ tables_1 := it2 (m81 (m81 (m81 (m9 (mt (mt (mt (mt (mt (mt (mt (mt mh))))))))))))
theorem tq_340 : (.lays "TickPools$Step" "TickPools$Step" "pool" "I" : Cond) ∈ tables_1 := it2 (m81 (m81 (m81 (m9 (m9 (mt mh))))))
theorem tq_342 : (.lays "TickPools$Step" "TickPools$Step" "side" "I" : Cond) ∈ tables_1 := it2 (m81 (m81 (m81 (m9 (m9 (mt (mt (mt mh))))))))
theorem tq_344 : (.lays "TickPools$Step" "TickPools$Step" "low" "I" : Cond) ∈ tables_1 := it2 (m81 (m81 (m81 (m9 (m9 (mt (mt (mt (mt (mt mh))))))))))
theorem tq_346 : (.lays "TickPools$Step" "TickPools$Step" "high" "I" : Cond) ∈ tables_1 := it2 (m81 (m81 (m81 (m9 (m9 (mt (mt (mt (mt (mt (mt (mt mh))))))))))))
theorem tq_348 : (.lays "TickPools$Step" "TickPools$Step" "thing" "I" : Cond) ∈ tables_1 := it2 (m81 (m81 (m81 (m81 mh))))
theorem tq_350 : (.lays "TickPools$Step" "TickPools$Step" "amount" "I" : Cond) ∈ tables_1 := it2 (m81 (m81 (m81 (m81 (mt (mt mh))))))
theorem tq_352 : (.lays "TickPools$Step" "TickPools$Step" "much" "I" : Cond) ∈ tables_1 := it2 (m81 (m81 (m81 (m81 (mt (mt (mt (mt mh))))))))
theorem tq_354 : (.lays "TickPools$Step" "TickPools$Step" "after" "I" : Cond) ∈ tables_1 := it2 (m81 (m81 (m81 (m81 (mt (mt (mt (mt (mt (mt mh))))))))))
theorem tq_357 : (.fieldLink "TickPools$Script" 26 "TickPools$Script" "size" "I" : Cond) ∈ tables_1 := it2 (m81 (m81 (m81 (m81 (m9 mh)))))
theorem tq_358 : (.fieldLink "TickPools$Runner" 59 "TickPools$Script" "size" "I" : Cond) ∈ tables_1 := it2 (m81 (m81 (m81 (m81 (m9 (mt mh))))))
theorem tq_359 : (.fieldLink "TickPools$Script" 9 "TickPools$Script" "tape" "LTickPools$Tape;" : Cond) ∈ tables_1 := it2 (m81 (m81 (m81 (m81 (m9 (mt (mt mh)))))))
theorem tq_360 : (.fieldLink "TickPools$Script" 17 "TickPools$Script" "steps" "[LTickPools$Step;" : Cond) ∈ tables_1 := it2 (m81 (m81 (m81 (m81 (m9 (mt (mt (mt mh))))))))
theorem tq_361 : (.fieldLink "TickPools$Script" 22 "TickPools$Script" "open" "[I" : Cond) ∈ tables_1 := it2 (m81 (m81 (m81 (m81 (m9 (mt (mt (mt (mt mh)))))))))
theorem tq_362 : (.fieldLink "TickPools$Script" 35 "TickPools$Script" "deep" "I" : Cond) ∈ tables_1 := it2 (m81 (m81 (m81 (m81 (m9 (mt (mt (mt (mt (mt mh))))))))))
theorem tq_363 : (.lays "TickPools$Script" "TickPools$Script" "size" "I" : Cond) ∈ tables_1 := it2 (m81 (m81 (m81 (m81 (m9 (mt (mt (mt (mt (mt (mt mh)))))))))))
theorem tq_365 : (.laysFinal "TickPools$Script" "TickPools$Script" "tape" "LTickPools$Tape;" : Cond) ∈ tables_1 := it2 (m81 (m81 (m81 (m81 (m9 (mt (mt (mt (mt (mt (mt (mt (mt mh)))))))))))))
theorem tq_367 : (.laysFinal "TickPools$Script" "TickPools$Script" "steps" "[LTickPools$Step;" : Cond) ∈ tables_1 := it2 (m81 (m81 (m81 (m81 (m9 (m9 (mt mh)))))))
theorem tq_369 : (.laysFinal "TickPools$Script" "TickPools$Script" "open" "[I" : Cond) ∈ tables_1 := it2 (m81 (m81 (m81 (m81 (m9 (m9 (mt (mt (mt mh)))))))))
theorem tq_371 : (.lays "TickPools$Script" "TickPools$Script" "deep" "I" : Cond) ∈ tables_1 := it2 (m81 (m81 (m81 (m81 (m9 (m9 (mt (mt (mt (mt (mt mh)))))))))))
theorem tq_374 : (.classLink "TickPools" 51 "TickPools$Runner" : Cond) ∈ tables_1 := it2 (m81 (m81 (m81 (m81 (m9 (m9 (mt (mt (mt (mt (mt (mt (mt (mt mh))))))))))))))
theorem tq_375 : (.instantiable "TickPools$Runner" 13 : Cond) ∈ tables_1 := it2 (m81 (m81 (m81 (m81 (m81 mh)))))
theorem tq_376 : (.methodLink "TickPools" 53 yX5_init : Cond) ∈ tables_1 := it2 (m81 (m81 (m81 (m81 (m81 (mt mh))))))
theorem tq_377 : (.instanceMethod yX5_init : Cond) ∈ tables_1 := it2 (m81 (m81 (m81 (m81 (m81 (mt (mt mh)))))))
theorem tq_378 : ((Jvm.Cond.code ({ cls := "TickPools$Runner", name := "<init>", desc := "(LTickPools$Market;LTickPools$Script;LTickPools$Trade;)V" } : Jvm.MethodName) prog_7_method_1_code (4 : Nat) (Option.none : Option Jvm.ClassFile.FieldType)) : Cond) ∈ tables_1 := it2 (m81 (m81 (m81 (m81 (m81 (mt (mt (mt mh))))))))
theorem tq_379 : (.methodLink "TickPools$Runner" 3 ⟨"java/lang/Object", "<init>", "()V"⟩ : Cond) ∈ tables_1 := it2 (m81 (m81 (m81 (m81 (m81 (mt (mt (mt (mt mh)))))))))
theorem tq_380 : (.fieldLink "TickPools$Runner" 43 "TickPools$Runner" "done" "I" : Cond) ∈ tables_1 := it2 (m81 (m81 (m81 (m81 (m81 (mt (mt (mt (mt (mt mh))))))))))
theorem tq_381 : (.fieldLink "TickPools" 113 "TickPools$Runner" "done" "I" : Cond) ∈ tables_1 := it2 (m81 (m81 (m81 (m81 (m81 (mt (mt (mt (mt (mt (mt mh)))))))))))
theorem tq_382 : (.fieldLink "TickPools$Runner" 46 "TickPools$Runner" "failure" "I" : Cond) ∈ tables_1 := it2 (m81 (m81 (m81 (m81 (m81 (mt (mt (mt (mt (mt (mt (mt mh))))))))))))
theorem tq_383 : (.fieldLink "TickPools" 110 "TickPools$Runner" "failure" "I" : Cond) ∈ tables_1 := it2 (m81 (m81 (m81 (m81 (m81 (mt (mt (mt (mt (mt (mt (mt (mt mh)))))))))))))
theorem tq_384 : (.fieldLink "TickPools$Runner" 9 "TickPools$Runner" "market" "LTickPools$Market;" : Cond) ∈ tables_1 := it2 (m81 (m81 (m81 (m81 (m81 (m9 mh))))))
theorem tq_385 : (.fieldLink "TickPools$Runner" 15 "TickPools$Runner" "script" "LTickPools$Script;" : Cond) ∈ tables_1 := it2 (m81 (m81 (m81 (m81 (m81 (m9 (mt mh)))))))
theorem tq_386 : (.fieldLink "TickPools$Runner" 19 "TickPools$Runner" "trade" "LTickPools$Trade;" : Cond) ∈ tables_1 := it2 (m81 (m81 (m81 (m81 (m81 (m9 (mt (mt mh))))))))
theorem tq_387 : (.fieldLink "TickPools$Runner" 39 "TickPools$Runner" "person" "I" : Cond) ∈ tables_1 := it2 (m81 (m81 (m81 (m81 (m81 (m9 (mt (mt (mt mh)))))))))
theorem tq_388 : (.fieldLink "TickPools$Runner" 49 "TickPools$Runner" "at" "I" : Cond) ∈ tables_1 := it2 (m81 (m81 (m81 (m81 (m81 (m9 (mt (mt (mt (mt mh))))))))))
theorem tq_389 : (.fieldLink "TickPools$Runner" 52 "TickPools$Runner" "deep" "I" : Cond) ∈ tables_1 := it2 (m81 (m81 (m81 (m81 (m81 (m9 (mt (mt (mt (mt (mt mh)))))))))))
theorem tq_390 : (.fieldLink "TickPools$Runner" 55 "TickPools$Runner" "got" "J" : Cond) ∈ tables_1 := it2 (m81 (m81 (m81 (m81 (m81 (m9 (mt (mt (mt (mt (mt (mt mh))))))))))))
theorem tq_391 : (.fieldLink "TickPools$Runner" 25 "TickPools$Runner" "open" "[I" : Cond) ∈ tables_1 := it2 (m81 (m81 (m81 (m81 (m81 (m9 (mt (mt (mt (mt (mt (mt (mt mh)))))))))))))
theorem tq_392 : (.fieldLink "TickPools$Runner" 29 "TickPools$Runner" "rounds" "[I" : Cond) ∈ tables_1 := it2 (m81 (m81 (m81 (m81 (m81 (m9 (mt (mt (mt (mt (mt (mt (mt (mt mh))))))))))))))
theorem tq_393 : (.fieldLink "TickPools$Runner" 32 "TickPools$Runner" "lent" "[I" : Cond) ∈ tables_1 := it2 (m81 (m81 (m81 (m81 (m81 (m9 (m9 mh)))))))
theorem tq_394 : (.fieldLink "TickPools$Runner" 35 "TickPools$Runner" "locked" "[Z" : Cond) ∈ tables_1 := it2 (m81 (m81 (m81 (m81 (m81 (m9 (m9 (mt mh))))))))
theorem tq_395 : (.lays "TickPools$Runner" "TickPools$Runner" "done" "I" : Cond) ∈ tables_1 := it2 (m81 (m81 (m81 (m81 (m81 (m9 (m9 (mt (mt mh)))))))))
theorem tq_397 : (.lays "TickPools$Runner" "TickPools$Runner" "failure" "I" : Cond) ∈ tables_1 := it2 (m81 (m81 (m81 (m81 (m81 (m9 (m9 (mt (mt (mt (mt mh)))))))))))
theorem tq_399 : (.laysFinal "TickPools$Runner" "TickPools$Runner" "market" "LTickPools$Market;" : Cond) ∈ tables_1 := it2 (m81 (m81 (m81 (m81 (m81 (m9 (m9 (mt (mt (mt (mt (mt (mt mh)))))))))))))
theorem tq_401 : (.laysFinal "TickPools$Runner" "TickPools$Runner" "script" "LTickPools$Script;" : Cond) ∈ tables_1 := it2 (m81 (m81 (m81 (m81 (m81 (m9 (m9 (mt (mt (mt (mt (mt (mt (mt (mt mh)))))))))))))))
theorem tq_403 : (.laysFinal "TickPools$Runner" "TickPools$Runner" "trade" "LTickPools$Trade;" : Cond) ∈ tables_1 := it2 (m81 (m81 (m81 (m81 (m81 (m81 (mt mh)))))))
theorem tq_405 : (.lays "TickPools$Runner" "TickPools$Runner" "person" "I" : Cond) ∈ tables_1 := it2 (m81 (m81 (m81 (m81 (m81 (m81 (mt (mt (mt mh)))))))))
theorem tq_407 : (.lays "TickPools$Runner" "TickPools$Runner" "at" "I" : Cond) ∈ tables_1 := it2 (m81 (m81 (m81 (m81 (m81 (m81 (mt (mt (mt (mt (mt mh)))))))))))
theorem tq_409 : (.lays "TickPools$Runner" "TickPools$Runner" "deep" "I" : Cond) ∈ tables_1 := it2 (m81 (m81 (m81 (m81 (m81 (m81 (mt (mt (mt (mt (mt (mt (mt mh)))))))))))))
theorem tq_411 : (.lays "TickPools$Runner" "TickPools$Runner" "got" "J" : Cond) ∈ tables_1 := it2 (m81 (m81 (m81 (m81 (m81 (m81 (m9 mh)))))))
theorem tq_413 : (.laysFinal "TickPools$Runner" "TickPools$Runner" "open" "[I" : Cond) ∈ tables_1 := it2 (m81 (m81 (m81 (m81 (m81 (m81 (m9 (mt (mt mh)))))))))
theorem tq_415 : (.laysFinal "TickPools$Runner" "TickPools$Runner" "rounds" "[I" : Cond) ∈ tables_1 := it2 (m81 (m81 (m81 (m81 (m81 (m81 (m9 (mt (mt (mt (mt mh)))))))))))
theorem tq_417 : (.laysFinal "TickPools$Runner" "TickPools$Runner" "lent" "[I" : Cond) ∈ tables_1 := it2 (m81 (m81 (m81 (m81 (m81 (m81 (m9 (mt (mt (mt (mt (mt (mt mh)))))))))))))
theorem tq_419 : (.laysFinal "TickPools$Runner" "TickPools$Runner" "locked" "[Z" : Cond) ∈ tables_1 := it2 (m81 (m81 (m81 (m81 (m81 (m81 (m9 (mt (mt (mt (mt (mt (mt (mt (mt mh)))))))))))))))
theorem tq_422 : (.arrayClass Jvm.ClassFile.FieldType.boolean : Cond) ∈ tables_1 := it2 (m81 (m81 (m81 (m81 (m81 (m81 (m9 (m9 (mt (mt mh))))))))))
theorem tq_423 : (.classLink "TickPools" 60 "TickPools$Finder" : Cond) ∈ tables_1 := it2 (m81 (m81 (m81 (m81 (m81 (m81 (m9 (m9 (mt (mt (mt mh)))))))))))
theorem tq_424 : (.instantiable "TickPools$Finder" 9 : Cond) ∈ tables_1 := it2 (m81 (m81 (m81 (m81 (m81 (m81 (m9 (m9 (mt (mt (mt (mt mh))))))))))))
theorem tq_425 : (.methodLink "TickPools" 62 yX1_init : Cond) ∈ tables_1 := it2 (m81 (m81 (m81 (m81 (m81 (m81 (m9 (m9 (mt (mt (mt (mt (mt mh)))))))))))))
theorem tq_426 : (.instanceMethod yX1_init : Cond) ∈ tables_1 := it2 (m81 (m81 (m81 (m81 (m81 (m81 (m9 (m9 (mt (mt (mt (mt (mt (mt mh))))))))))))))
theorem tq_427 : ((Jvm.Cond.code ({ cls := "TickPools$Finder", name := "<init>", desc := "(LTickPools$Trade;)V" } : Jvm.MethodName) prog_3_method_1_code (2 : Nat) (Option.none : Option Jvm.ClassFile.FieldType)) : Cond) ∈ tables_1 := it2 (m81 (m81 (m81 (m81 (m81 (m81 (m9 (m9 (mt (mt (mt (mt (mt (mt (mt mh)))))))))))))))
theorem tq_428 : (.methodLink "TickPools$Finder" 3 ⟨"java/lang/Object", "<init>", "()V"⟩ : Cond) ∈ tables_1 := it2 (m81 (m81 (m81 (m81 (m81 (m81 (m9 (m9 (mt (mt (mt (mt (mt (mt (mt (mt mh))))))))))))))))
theorem tq_429 : (.fieldLink "TickPools$Finder" 36 "TickPools$Finder" "bestGain" "J" : Cond) ∈ tables_1 := it2 (m81 (m81 (m81 (m81 (m81 (m81 (m81 mh)))))))
theorem tq_430 : (.fieldLink "TickPools" 305 "TickPools$Finder" "bestGain" "J" : Cond) ∈ tables_1 := it2 (m81 (m81 (m81 (m81 (m81 (m81 (m81 (mt mh))))))))
theorem tq_431 : (.fieldLink "TickPools$Finder" 40 "TickPools$Finder" "bestAmount" "I" : Cond) ∈ tables_1 := it2 (m81 (m81 (m81 (m81 (m81 (m81 (m81 (mt (mt mh)))))))))
theorem tq_432 : (.fieldLink "TickPools" 318 "TickPools$Finder" "bestAmount" "I" : Cond) ∈ tables_1 := it2 (m81 (m81 (m81 (m81 (m81 (m81 (m81 (mt (mt (mt mh))))))))))
theorem tq_433 : (.fieldLink "TickPools$Finder" 32 "TickPools$Finder" "bestLength" "I" : Cond) ∈ tables_1 := it2 (m81 (m81 (m81 (m81 (m81 (m81 (m81 (mt (mt (mt (mt mh)))))))))))
theorem tq_434 : (.fieldLink "TickPools" 302 "TickPools$Finder" "bestLength" "I" : Cond) ∈ tables_1 := it2 (m81 (m81 (m81 (m81 (m81 (m81 (m81 (mt (mt (mt (mt (mt mh))))))))))))
theorem tq_435 : (.fieldLink "TickPools$Finder" 9 "TickPools$Finder" "trade" "LTickPools$Trade;" : Cond) ∈ tables_1 := it2 (m81 (m81 (m81 (m81 (m81 (m81 (m81 (mt (mt (mt (mt (mt (mt mh)))))))))))))
theorem tq_436 : (.fieldLink "TickPools$Finder" 15 "TickPools$Finder" "best" "[I" : Cond) ∈ tables_1 := it2 (m81 (m81 (m81 (m81 (m81 (m81 (m81 (mt (mt (mt (mt (mt (mt (mt mh))))))))))))))
theorem tq_437 : (.fieldLink "TickPools$Finder" 19 "TickPools$Finder" "row" "[I" : Cond) ∈ tables_1 := it2 (m81 (m81 (m81 (m81 (m81 (m81 (m81 (mt (mt (mt (mt (mt (mt (mt (mt mh)))))))))))))))
theorem tq_438 : (.fieldLink "TickPools$Finder" 22 "TickPools$Finder" "thing" "[I" : Cond) ∈ tables_1 := it2 (m81 (m81 (m81 (m81 (m81 (m81 (m81 (m9 mh))))))))
theorem tq_439 : (.fieldLink "TickPools$Finder" 25 "TickPools$Finder" "amount" "[J" : Cond) ∈ tables_1 := it2 (m81 (m81 (m81 (m81 (m81 (m81 (m81 (m9 (mt mh)))))))))
theorem tq_440 : (.fieldLink "TickPools$Finder" 29 "TickPools$Finder" "next" "[I" : Cond) ∈ tables_1 := it2 (m81 (m81 (m81 (m81 (m81 (m81 (m81 (m9 (mt (mt mh))))))))))
theorem tq_441 : (.lays "TickPools$Finder" "TickPools$Finder" "bestGain" "J" : Cond) ∈ tables_1 := it2 (m81 (m81 (m81 (m81 (m81 (m81 (m81 (m9 (mt (mt (mt mh)))))))))))
theorem tq_443 : (.lays "TickPools$Finder" "TickPools$Finder" "bestAmount" "I" : Cond) ∈ tables_1 := it2 (m81 (m81 (m81 (m81 (m81 (m81 (m81 (m9 (mt (mt (mt (mt (mt mh)))))))))))))
theorem tq_445 : (.lays "TickPools$Finder" "TickPools$Finder" "bestLength" "I" : Cond) ∈ tables_1 := it2 (m81 (m81 (m81 (m81 (m81 (m81 (m81 (m9 (mt (mt (mt (mt (mt (mt (mt mh)))))))))))))))
theorem tq_447 : (.laysFinal "TickPools$Finder" "TickPools$Finder" "trade" "LTickPools$Trade;" : Cond) ∈ tables_1 := it2 (m81 (m81 (m81 (m81 (m81 (m81 (m81 (m9 (m9 mh)))))))))
theorem tq_449 : (.laysFinal "TickPools$Finder" "TickPools$Finder" "best" "[I" : Cond) ∈ tables_1 := it2 (m81 (m81 (m81 (m81 (m81 (m81 (m81 (m9 (m9 (mt (mt mh)))))))))))
theorem tq_451 : (.laysFinal "TickPools$Finder" "TickPools$Finder" "row" "[I" : Cond) ∈ tables_1 := it2 (m81 (m81 (m81 (m81 (m81 (m81 (m81 (m9 (m9 (mt (mt (mt (mt mh)))))))))))))
theorem tq_453 : (.laysFinal "TickPools$Finder" "TickPools$Finder" "thing" "[I" : Cond) ∈ tables_1 := it2 (m81 (m81 (m81 (m81 (m81 (m81 (m81 (m9 (m9 (mt (mt (mt (mt (mt (mt mh)))))))))))))))
theorem tq_455 : (.laysFinal "TickPools$Finder" "TickPools$Finder" "amount" "[J" : Cond) ∈ tables_1 := it2 (m81 (m81 (m81 (m81 (m81 (m81 (m81 (m9 (m9 (mt (mt (mt (mt (mt (mt (mt (mt mh)))))))))))))))))
theorem tq_457 : (.laysFinal "TickPools$Finder" "TickPools$Finder" "next" "[I" : Cond) ∈ tables_1 := it2 (m81 (m81 (m81 (m81 (m81 (m81 (m81 (m81 (mt mh)))))))))
theorem tq_460 : (.fieldLink "TickPools" 10 "TickPools" "tape" "LTickPools$Tape;" : Cond) ∈ tables_1 := it2 (m81 (m81 (m81 (m81 (m81 (m81 (m81 (m81 (mt (mt (mt (mt mh))))))))))))
theorem tq_461 : (.fieldLink "TickPools" 19 "TickPools" "live" "LTickPools$Market;" : Cond) ∈ tables_1 := it2 (m81 (m81 (m81 (m81 (m81 (m81 (m81 (m81 (mt (mt (mt (mt (mt mh)))))))))))))
theorem tq_462 : (.fieldLink "TickPools" 23 "TickPools" "spare" "LTickPools$Market;" : Cond) ∈ tables_1 := it2 (m81 (m81 (m81 (m81 (m81 (m81 (m81 (m81 (mt (mt (mt (mt (mt (mt mh))))))))))))))
theorem tq_463 : (.fieldLink "TickPools" 38 "TickPools" "marketReader" "LTickPools$MarketReader;" : Cond) ∈ tables_1 := it2 (m81 (m81 (m81 (m81 (m81 (m81 (m81 (m81 (mt (mt (mt (mt (mt (mt (mt mh)))))))))))))))
theorem tq_464 : (.fieldLink "TickPools" 47 "TickPools" "script" "LTickPools$Script;" : Cond) ∈ tables_1 := it2 (m81 (m81 (m81 (m81 (m81 (m81 (m81 (m81 (mt (mt (mt (mt (mt (mt (mt (mt mh))))))))))))))))
theorem tq_465 : (.fieldLink "TickPools" 56 "TickPools" "runner" "LTickPools$Runner;" : Cond) ∈ tables_1 := it2 (m81 (m81 (m81 (m81 (m81 (m81 (m81 (m81 (m9 mh)))))))))
theorem tq_466 : (.fieldLink "TickPools" 29 "TickPools" "trade" "LTickPools$Trade;" : Cond) ∈ tables_1 := it2 (m81 (m81 (m81 (m81 (m81 (m81 (m81 (m81 (m9 (mt mh))))))))))
theorem tq_467 : (.fieldLink "TickPools" 65 "TickPools" "finder" "LTickPools$Finder;" : Cond) ∈ tables_1 := it2 (m81 (m81 (m81 (m81 (m81 (m81 (m81 (m81 (m9 (mt (mt mh)))))))))))
theorem tq_468 : (.laysFinal "TickPools" "TickPools" "tape" "LTickPools$Tape;" : Cond) ∈ tables_1 := it2 (m81 (m81 (m81 (m81 (m81 (m81 (m81 (m81 (m9 (mt (mt (mt mh))))))))))))
theorem tq_470 : (.laysFinal "TickPools" "TickPools" "live" "LTickPools$Market;" : Cond) ∈ tables_1 := it2 (m81 (m81 (m81 (m81 (m81 (m81 (m81 (m81 (m9 (mt (mt (mt (mt (mt mh))))))))))))))
theorem tq_472 : (.laysFinal "TickPools" "TickPools" "spare" "LTickPools$Market;" : Cond) ∈ tables_1 := it2 (m81 (m81 (m81 (m81 (m81 (m81 (m81 (m81 (m9 (mt (mt (mt (mt (mt (mt (mt mh))))))))))))))))
theorem tq_474 : (.laysFinal "TickPools" "TickPools" "marketReader" "LTickPools$MarketReader;" : Cond) ∈ tables_1 := it2 (m81 (m81 (m81 (m81 (m81 (m81 (m81 (m81 (m9 (m9 mh))))))))))
theorem tq_476 : (.laysFinal "TickPools" "TickPools" "script" "LTickPools$Script;" : Cond) ∈ tables_1 := it2 (m81 (m81 (m81 (m81 (m81 (m81 (m81 (m81 (m9 (m9 (mt (mt mh))))))))))))
theorem tq_478 : (.laysFinal "TickPools" "TickPools" "runner" "LTickPools$Runner;" : Cond) ∈ tables_1 := it2 (m81 (m81 (m81 (m81 (m81 (m81 (m81 (m81 (m9 (m9 (mt (mt (mt (mt mh))))))))))))))
theorem tq_480 : (.laysFinal "TickPools" "TickPools" "trade" "LTickPools$Trade;" : Cond) ∈ tables_1 := it3 mh
theorem tq_482 : (.laysFinal "TickPools" "TickPools" "finder" "LTickPools$Finder;" : Cond) ∈ tables_1 := it3 (mt (mt mh))
theorem tq_485 : (.methodLink "TickPoolsLaw" 13 yX11_feed : Cond) ∈ tables_1 := it3 (mt (mt (mt (mt (mt mh)))))
theorem tq_486 : (.instanceMethod yX11_feed : Cond) ∈ tables_1 := it3 (mt (mt (mt (mt (mt (mt mh))))))
theorem tq_487 : (.selects "TickPools" yX11_feed yX11_feed : Cond) ∈ tables_1 := it3 (mt (mt (mt (mt (mt (mt (mt mh)))))))
theorem tq_488 : ((Jvm.Cond.code ({ cls := "TickPools", name := "feed", desc := "(IIIII)I" } : Jvm.MethodName) prog_1_method_2_code (6 : Nat) (Option.some Jvm.ClassFile.FieldType.int)) : Cond) ∈ tables_1 := it3 (mt (mt (mt (mt (mt (mt (mt (mt mh))))))))
theorem tq_489 : (.methodLink "TickPools" 69 yX9_hasRoom : Cond) ∈ tables_1 := it3 (m9 mh)
theorem tq_490 : (.instanceMethod yX9_hasRoom : Cond) ∈ tables_1 := it3 (m9 (mt mh))
theorem tq_491 : (.selects "TickPools$Tape" yX9_hasRoom yX9_hasRoom : Cond) ∈ tables_1 := it3 (m9 (mt (mt mh)))
theorem tq_492 : ((Jvm.Cond.code ({ cls := "TickPools$Tape", name := "hasRoom", desc := "()Z" } : Jvm.MethodName) prog_11_method_2_code (1 : Nat) (Option.some Jvm.ClassFile.FieldType.boolean)) : Cond) ∈ tables_1 := it3 (m9 (mt (mt (mt mh))))
theorem tq_493 : (.methodLink "TickPools" 73 yX9_append : Cond) ∈ tables_1 := it3 (m9 (mt (mt (mt (mt mh)))))
theorem tq_494 : (.instanceMethod yX9_append : Cond) ∈ tables_1 := it3 (m9 (mt (mt (mt (mt (mt mh))))))
theorem tq_495 : (.selects "TickPools$Tape" yX9_append yX9_append : Cond) ∈ tables_1 := it3 (m9 (mt (mt (mt (mt (mt (mt mh)))))))
theorem tq_496 : ((Jvm.Cond.code ({ cls := "TickPools$Tape", name := "append", desc := "(I)V" } : Jvm.MethodName) prog_11_method_3_code (3 : Nat) (Option.none : Option Jvm.ClassFile.FieldType)) : Cond) ∈ tables_1 := it3 (m9 (mt (mt (mt (mt (mt (mt (mt mh))))))))
theorem tq_497 : (.methodLink "TickPoolsLaw" 18 yX11_end : Cond) ∈ tables_1 := it3 (m9 (mt (mt (mt (mt (mt (mt (mt (mt mh)))))))))
theorem tq_498 : (.instanceMethod yX11_end : Cond) ∈ tables_1 := it3 (m9 (m9 mh))
theorem tq_499 : (.selects "TickPools" yX11_end yX11_end : Cond) ∈ tables_1 := it3 (m9 (m9 (mt mh)))
theorem tq_500 : ((Jvm.Cond.code ({ cls := "TickPools", name := "end", desc := "(I)I" } : Jvm.MethodName) prog_1_method_3_code (2 : Nat) (Option.some Jvm.ClassFile.FieldType.int)) : Cond) ∈ tables_1 := it3 (m9 (m9 (mt (mt mh))))
theorem tq_501 : (.methodLink "TickPoolsLaw" 23 yX11_market : Cond) ∈ tables_1 := it3 (m9 (m9 (mt (mt (mt mh)))))
theorem tq_502 : (.instanceMethod yX11_market : Cond) ∈ tables_1 := it3 (m9 (m9 (mt (mt (mt (mt mh))))))
theorem tq_503 : (.selects "TickPools" yX11_market yX11_market : Cond) ∈ tables_1 := it3 (m9 (m9 (mt (mt (mt (mt (mt mh)))))))
theorem tq_504 : ((Jvm.Cond.code ({ cls := "TickPools", name := "market", desc := "()I" } : Jvm.MethodName) prog_1_method_4_code (2 : Nat) (Option.some Jvm.ClassFile.FieldType.int)) : Cond) ∈ tables_1 := it3 (m9 (m9 (mt (mt (mt (mt (mt (mt mh))))))))
theorem tq_505 : (.methodLink "TickPools" 81 yX3_read : Cond) ∈ tables_1 := it3 (m9 (m9 (mt (mt (mt (mt (mt (mt (mt mh)))))))))
theorem tq_506 : (.instanceMethod yX3_read : Cond) ∈ tables_1 := it3 (m9 (m9 (mt (mt (mt (mt (mt (mt (mt (mt mh))))))))))
theorem tq_507 : (.selects "TickPools$MarketReader" yX3_read yX3_read : Cond) ∈ tables_1 := it3 (m81 mh)
theorem tq_508 : ((Jvm.Cond.code ({ cls := "TickPools$MarketReader", name := "read", desc := "()Z" } : Jvm.MethodName) prog_5_method_2_code (2 : Nat) (Option.some Jvm.ClassFile.FieldType.boolean)) : Cond) ∈ tables_1 := it3 (m81 (mt mh))
theorem tq_509 : (.methodLink "TickPools$MarketReader" 19 yX9_rewind : Cond) ∈ tables_1 := it3 (m81 (mt (mt mh)))
theorem tq_510 : (.instanceMethod yX9_rewind : Cond) ∈ tables_1 := it3 (m81 (mt (mt (mt mh))))
theorem tq_511 : (.selects "TickPools$Tape" yX9_rewind yX9_rewind : Cond) ∈ tables_1 := it3 (m81 (mt (mt (mt (mt mh)))))
theorem tq_512 : ((Jvm.Cond.code ({ cls := "TickPools$Tape", name := "rewind", desc := "()V" } : Jvm.MethodName) prog_11_method_4_code (1 : Nat) (Option.none : Option Jvm.ClassFile.FieldType)) : Cond) ∈ tables_1 := it3 (m81 (mt (mt (mt (mt (mt mh))))))
theorem tq_513 : (.methodLink "TickPools$MarketReader" 24 yX2_clear : Cond) ∈ tables_1 := it3 (m81 (mt (mt (mt (mt (mt (mt mh)))))))
theorem tq_514 : (.instanceMethod yX2_clear : Cond) ∈ tables_1 := it3 (m81 (mt (mt (mt (mt (mt (mt (mt mh))))))))
theorem tq_515 : (.selects "TickPools$Market" yX2_clear yX2_clear : Cond) ∈ tables_1 := it3 (m81 (mt (mt (mt (mt (mt (mt (mt (mt mh)))))))))
theorem tq_516 : ((Jvm.Cond.code ({ cls := "TickPools$Market", name := "clear", desc := "()V" } : Jvm.MethodName) prog_4_method_2_code (2 : Nat) (Option.none : Option Jvm.ClassFile.FieldType)) : Cond) ∈ tables_1 := it3 (m81 (m9 mh))
theorem tq_517 : (.methodLink "TickPools$MarketReader" 29 yX3_readClause : Cond) ∈ tables_1 := it3 (m81 (m9 (mt mh)))
theorem tq_518 : (.privateMethod yX3_readClause : Cond) ∈ tables_1 := it3 (m81 (m9 (mt (mt mh))))
theorem tq_519 : (.instanceMethod yX3_readClause : Cond) ∈ tables_1 := it3 (m81 (m9 (mt (mt (mt mh)))))
theorem tq_520 : ((Jvm.Cond.code ({ cls := "TickPools$MarketReader", name := "readClause", desc := "(I)Z" } : Jvm.MethodName) prog_5_method_3_code (5 : Nat) (Option.some Jvm.ClassFile.FieldType.boolean)) : Cond) ∈ tables_1 := it3 (m81 (m9 (mt (mt (mt (mt mh))))))
theorem tq_521 : (.methodLink "TickPools$MarketReader" 43 yX9_readWord : Cond) ∈ tables_1 := it3 (m81 (m9 (mt (mt (mt (mt (mt mh)))))))
theorem tq_522 : (.instanceMethod yX9_readWord : Cond) ∈ tables_1 := it3 (m81 (m9 (mt (mt (mt (mt (mt (mt mh))))))))
theorem tq_523 : (.selects "TickPools$Tape" yX9_readWord yX9_readWord : Cond) ∈ tables_1 := it3 (m81 (m9 (mt (mt (mt (mt (mt (mt (mt mh)))))))))
theorem tq_524 : ((Jvm.Cond.code ({ cls := "TickPools$Tape", name := "readWord", desc := "()Z" } : Jvm.MethodName) prog_11_method_10_code (1 : Nat) (Option.some Jvm.ClassFile.FieldType.boolean)) : Cond) ∈ tables_1 := it3 (m81 (m9 (mt (mt (mt (mt (mt (mt (mt (mt mh))))))))))
theorem tq_525 : (.methodLink "TickPools$Tape" 29 yX9_peek : Cond) ∈ tables_1 := it3 (m81 (m9 (m9 mh)))
theorem tq_526 : (.instanceMethod yX9_peek : Cond) ∈ tables_1 := it3 (m81 (m9 (m9 (mt mh))))
theorem tq_527 : (.selects "TickPools$Tape" yX9_peek yX9_peek : Cond) ∈ tables_1 := it3 (m81 (m9 (m9 (mt (mt mh)))))
theorem tq_528 : ((Jvm.Cond.code ({ cls := "TickPools$Tape", name := "peek", desc := "()I" } : Jvm.MethodName) prog_11_method_6_code (1 : Nat) (Option.some Jvm.ClassFile.FieldType.int)) : Cond) ∈ tables_1 := it3 (m81 (m9 (m9 (mt (mt (mt mh))))))
theorem tq_529 : (.methodLink "TickPools$Tape" 25 yX9_byteAt : Cond) ∈ tables_1 := it3 (m81 (m9 (m9 (mt (mt (mt (mt mh)))))))
theorem tq_530 : (.privateMethod yX9_byteAt : Cond) ∈ tables_1 := it3 (m81 (m9 (m9 (mt (mt (mt (mt (mt mh))))))))
theorem tq_531 : (.instanceMethod yX9_byteAt : Cond) ∈ tables_1 := it3 (m81 (m9 (m9 (mt (mt (mt (mt (mt (mt mh)))))))))
theorem tq_532 : ((Jvm.Cond.code ({ cls := "TickPools$Tape", name := "byteAt", desc := "(I)I" } : Jvm.MethodName) prog_11_method_7_code (2 : Nat) (Option.some Jvm.ClassFile.FieldType.int)) : Cond) ∈ tables_1 := it3 (m81 (m9 (m9 (mt (mt (mt (mt (mt (mt (mt mh))))))))))
theorem tq_533 : (.methodLink "TickPools$Tape" 33 yX9_blame : Cond) ∈ tables_1 := it3 (m81 (m9 (m9 (mt (mt (mt (mt (mt (mt (mt (mt mh)))))))))))
theorem tq_534 : (.instanceMethod yX9_blame : Cond) ∈ tables_1 := it3 (m81 (m81 mh))
theorem tq_535 : (.selects "TickPools$Tape" yX9_blame yX9_blame : Cond) ∈ tables_1 := it3 (m81 (m81 (mt mh)))
theorem tq_536 : ((Jvm.Cond.code ({ cls := "TickPools$Tape", name := "blame", desc := "(II)Z" } : Jvm.MethodName) prog_11_method_5_code (3 : Nat) (Option.some Jvm.ClassFile.FieldType.boolean)) : Cond) ∈ tables_1 := it3 (m81 (m81 (mt (mt mh))))
theorem tq_537 : (.stringRef "TickPools$MarketReader" 47 "market" : Cond) ∈ tables_1 := it3 (m81 (m81 (mt (mt (mt mh)))))
theorem tq_538 : (.methodLink "TickPools$MarketReader" 48 yX9_wordIs : Cond) ∈ tables_1 := it3 (m81 (m81 (mt (mt (mt (mt mh))))))
theorem tq_539 : (.instanceMethod yX9_wordIs : Cond) ∈ tables_1 := it3 (m81 (m81 (mt (mt (mt (mt (mt mh)))))))
theorem tq_540 : (.selects "TickPools$Tape" yX9_wordIs yX9_wordIs : Cond) ∈ tables_1 := it3 (m81 (m81 (mt (mt (mt (mt (mt (mt mh))))))))
theorem tq_541 : ((Jvm.Cond.code ({ cls := "TickPools$Tape", name := "wordIs", desc := "(Ljava/lang/String;)Z" } : Jvm.MethodName) prog_11_method_11_code (4 : Nat) (Option.some Jvm.ClassFile.FieldType.boolean)) : Cond) ∈ tables_1 := it3 (m81 (m81 (mt (mt (mt (mt (mt (mt (mt mh)))))))))
theorem tq_542 : (.methodLink "TickPools$Tape" 43 ⟨"java/lang/String", "length", "()I"⟩ : Cond) ∈ tables_1 := it3 (m81 (m81 (mt (mt (mt (mt (mt (mt (mt (mt mh))))))))))
theorem tq_543 : (.instanceMethod ⟨"java/lang/String", "length", "()I"⟩ : Cond) ∈ tables_1 := it3 (m81 (m81 (m9 mh)))
theorem tq_544 : (.selects "java/lang/String" ⟨"java/lang/String", "length", "()I"⟩ ⟨"java/lang/String", "length", "()I"⟩ : Cond) ∈ tables_1 := it3 (m81 (m81 (m9 (mt mh))))
theorem tq_545 : ((Jvm.Cond.code ({ cls := "java/lang/String", name := "length", desc := "()I" } : Jvm.MethodName) prog_15_method_54_code (1 : Nat) (Option.some Jvm.ClassFile.FieldType.int)) : Cond) ∈ tables_1 := it3 (m81 (m81 (m9 (mt (mt mh)))))
theorem tq_546 : (.methodLink "java/lang/String" 335 ⟨"java/lang/String", "coder", "()B"⟩ : Cond) ∈ tables_1 := it3 (m81 (m81 (m9 (mt (mt (mt mh))))))
theorem tq_547 : (.instanceMethod ⟨"java/lang/String", "coder", "()B"⟩ : Cond) ∈ tables_1 := it3 (m81 (m81 (m9 (mt (mt (mt (mt mh)))))))
theorem tq_548 : (.selects "java/lang/String" ⟨"java/lang/String", "coder", "()B"⟩ ⟨"java/lang/String", "coder", "()B"⟩ : Cond) ∈ tables_1 := it3 (m81 (m81 (m9 (mt (mt (mt (mt (mt mh))))))))
theorem tq_549 : ((Jvm.Cond.code ({ cls := "java/lang/String", name := "coder", desc := "()B" } : Jvm.MethodName) prog_15_method_152_code (1 : Nat) (Option.some Jvm.ClassFile.FieldType.byte)) : Cond) ∈ tables_1 := it3 (m81 (m81 (m9 (mt (mt (mt (mt (mt (mt mh)))))))))
theorem tq_550 : (.fieldLink "java/lang/String" 38 "java/lang/String" "COMPACT_STRINGS" "Z" : Cond) ∈ tables_1 := it3 (m81 (m81 (m9 (mt (mt (mt (mt (mt (mt (mt mh))))))))))
theorem tq_551 : (.laysStatic "java/lang/String" "COMPACT_STRINGS" "Z" : Cond) ∈ tables_1 := it3 (m81 (m81 (m9 (mt (mt (mt (mt (mt (mt (mt (mt mh)))))))))))
theorem tq_552 : (.methodLink "TickPools$Tape" 47 ⟨"java/lang/String", "charAt", "(I)C"⟩ : Cond) ∈ tables_1 := it3 (m81 (m81 (m9 (m9 mh))))
theorem tq_553 : (.instanceMethod ⟨"java/lang/String", "charAt", "(I)C"⟩ : Cond) ∈ tables_1 := it3 (m81 (m81 (m9 (m9 (mt mh)))))
theorem tq_554 : (.selects "java/lang/String" ⟨"java/lang/String", "charAt", "(I)C"⟩ ⟨"java/lang/String", "charAt", "(I)C"⟩ : Cond) ∈ tables_1 := it3 (m81 (m81 (m9 (m9 (mt (mt mh))))))
theorem tq_555 : ((Jvm.Cond.code ({ cls := "java/lang/String", name := "charAt", desc := "(I)C" } : Jvm.MethodName) prog_15_method_56_code (2 : Nat) (Option.some Jvm.ClassFile.FieldType.char)) : Cond) ∈ tables_1 := it3 (m81 (m81 (m9 (m9 (mt (mt (mt mh)))))))
theorem tq_556 : (.methodLink "java/lang/String" 492 ⟨"java/lang/String", "isLatin1", "()Z"⟩ : Cond) ∈ tables_1 := it3 (m81 (m81 (m9 (m9 (mt (mt (mt (mt mh))))))))
theorem tq_557 : (.instanceMethod ⟨"java/lang/String", "isLatin1", "()Z"⟩ : Cond) ∈ tables_1 := it3 (m81 (m81 (m9 (m9 (mt (mt (mt (mt (mt mh)))))))))
theorem tq_558 : (.selects "java/lang/String" ⟨"java/lang/String", "isLatin1", "()Z"⟩ ⟨"java/lang/String", "isLatin1", "()Z"⟩ : Cond) ∈ tables_1 := it3 (m81 (m81 (m9 (m9 (mt (mt (mt (mt (mt (mt mh))))))))))
theorem tq_559 : ((Jvm.Cond.code ({ cls := "java/lang/String", name := "isLatin1", desc := "()Z" } : Jvm.MethodName) prog_15_method_154_code (1 : Nat) (Option.some Jvm.ClassFile.FieldType.boolean)) : Cond) ∈ tables_1 := it3 (m81 (m81 (m9 (m9 (mt (mt (mt (mt (mt (mt (mt mh)))))))))))
theorem tq_560 : (.methodLink "java/lang/String" 495 ⟨"java/lang/StringLatin1", "charAt", "([BI)C"⟩ : Cond) ∈ tables_1 := it3 (m81 (m81 (m9 (m9 (mt (mt (mt (mt (mt (mt (mt (mt mh))))))))))))
theorem tq_561 : (.static ⟨"java/lang/StringLatin1", "charAt", "([BI)C"⟩ : Cond) ∈ tables_1 := it3 (m81 (m81 (m81 mh)))
theorem tq_562 : ((Jvm.Cond.code ({ cls := "java/lang/StringLatin1", name := "charAt", desc := "([BI)C" } : Jvm.MethodName) prog_16_method_2_code (2 : Nat) (Option.some Jvm.ClassFile.FieldType.char)) : Cond) ∈ tables_1 := it3 (m81 (m81 (m81 (mt mh))))
theorem tq_563 : (.methodLink "java/lang/StringLatin1" 9 ⟨"java/lang/String", "checkIndex", "(II)V"⟩ : Cond) ∈ tables_1 := it3 (m81 (m81 (m81 (mt (mt mh)))))
theorem tq_564 : (.static ⟨"java/lang/String", "checkIndex", "(II)V"⟩ : Cond) ∈ tables_1 := it3 (m81 (m81 (m81 (mt (mt (mt mh))))))
theorem tq_565 : ((Jvm.Cond.code ({ cls := "java/lang/String", name := "checkIndex", desc := "(II)V" } : Jvm.MethodName) prog_15_method_155_code (2 : Nat) (Option.none : Option Jvm.ClassFile.FieldType)) : Cond) ∈ tables_1 := it3 (m81 (m81 (m81 (mt (mt (mt (mt mh)))))))
theorem tq_566 : (.fieldLink "java/lang/String" 1053 "jdk/internal/util/Preconditions" "SIOOBE_FORMATTER" "Ljava/util/function/BiFunction;" : Cond) ∈ tables_1 := it3 (m81 (m81 (m81 (mt (mt (mt (mt (mt mh))))))))
theorem tq_567 : (.laysStatic "jdk/internal/util/Preconditions" "SIOOBE_FORMATTER" "Ljava/util/function/BiFunction;" : Cond) ∈ tables_1 := it3 (m81 (m81 (m81 (mt (mt (mt (mt (mt (mt mh)))))))))
theorem tq_568 : (.methodLink "java/lang/String" 1059 ⟨"jdk/internal/util/Preconditions", "checkIndex", "(IILjava/util/function/BiFunction;)I"⟩ : Cond) ∈ tables_1 := it3 (m81 (m81 (m81 (mt (mt (mt (mt (mt (mt (mt mh))))))))))
theorem tq_569 : (.static ⟨"jdk/internal/util/Preconditions", "checkIndex", "(IILjava/util/function/BiFunction;)I"⟩ : Cond) ∈ tables_1 := it3 (m81 (m81 (m81 (mt (mt (mt (mt (mt (mt (mt (mt mh)))))))))))
theorem tq_570 : ((Jvm.Cond.code ({ cls := "jdk/internal/util/Preconditions", name := "checkIndex", desc := "(IILjava/util/function/BiFunction;)I" } : Jvm.MethodName) prog_19_method_11_code (3 : Nat) (Option.some Jvm.ClassFile.FieldType.int)) : Cond) ∈ tables_1 := it3 (m81 (m81 (m81 (m9 mh))))
theorem tq_571 : (.methodLink "java/lang/String" 498 ⟨"java/lang/StringUTF16", "charAt", "([BI)C"⟩ : Cond) ∈ tables_1 := it3 (m81 (m81 (m81 (m9 (mt mh)))))
theorem tq_572 : (.static ⟨"java/lang/StringUTF16", "charAt", "([BI)C"⟩ : Cond) ∈ tables_1 := it3 (m81 (m81 (m81 (m9 (mt (mt mh))))))
theorem tq_573 : ((Jvm.Cond.code ({ cls := "java/lang/StringUTF16", name := "charAt", desc := "([BI)C" } : Jvm.MethodName) prog_17_method_83_code (2 : Nat) (Option.some Jvm.ClassFile.FieldType.char)) : Cond) ∈ tables_1 := it3 (m81 (m81 (m81 (m9 (mt (mt (mt mh)))))))
theorem tq_574 : (.methodLink "java/lang/StringUTF16" 67 ⟨"java/lang/StringUTF16", "checkIndex", "(I[B)V"⟩ : Cond) ∈ tables_1 := it3 (m81 (m81 (m81 (m9 (mt (mt (mt (mt mh))))))))
theorem tq_575 : (.static ⟨"java/lang/StringUTF16", "checkIndex", "(I[B)V"⟩ : Cond) ∈ tables_1 := it3 (m81 (m81 (m81 (m9 (mt (mt (mt (mt (mt mh)))))))))
theorem tq_576 : ((Jvm.Cond.code ({ cls := "java/lang/StringUTF16", name := "checkIndex", desc := "(I[B)V" } : Jvm.MethodName) prog_17_method_91_code (2 : Nat) (Option.none : Option Jvm.ClassFile.FieldType)) : Cond) ∈ tables_1 := it3 (m81 (m81 (m81 (m9 (mt (mt (mt (mt (mt (mt mh))))))))))
theorem tq_577 : (.methodLink "java/lang/StringUTF16" 48 ⟨"java/lang/StringUTF16", "length", "([B)I"⟩ : Cond) ∈ tables_1 := it3 (m81 (m81 (m81 (m9 (mt (mt (mt (mt (mt (mt (mt mh)))))))))))
theorem tq_578 : (.static ⟨"java/lang/StringUTF16", "length", "([B)I"⟩ : Cond) ∈ tables_1 := it3 (m81 (m81 (m81 (m9 (mt (mt (mt (mt (mt (mt (mt (mt mh))))))))))))
theorem tq_579 : ((Jvm.Cond.code ({ cls := "java/lang/StringUTF16", name := "length", desc := "([B)I" } : Jvm.MethodName) prog_17_method_6_code (1 : Nat) (Option.some Jvm.ClassFile.FieldType.int)) : Cond) ∈ tables_1 := it3 (m81 (m81 (m81 (m9 (m9 mh)))))
theorem tq_580 : (.methodLink "java/lang/StringUTF16" 414 ⟨"java/lang/String", "checkIndex", "(II)V"⟩ : Cond) ∈ tables_1 := it3 (m81 (m81 (m81 (m9 (m9 (mt mh))))))
theorem tq_581 : (.methodLink "java/lang/StringUTF16" 71 ⟨"java/lang/StringUTF16", "getChar", "([BI)C"⟩ : Cond) ∈ tables_1 := it3 (m81 (m81 (m81 (m9 (m9 (mt (mt mh)))))))
theorem tq_582 : (.static ⟨"java/lang/StringUTF16", "getChar", "([BI)C"⟩ : Cond) ∈ tables_1 := it3 (m81 (m81 (m81 (m9 (m9 (mt (mt (mt mh))))))))
theorem tq_583 : ((Jvm.Cond.code ({ cls := "java/lang/StringUTF16", name := "getChar", desc := "([BI)C" } : Jvm.MethodName) prog_17_method_5_code (2 : Nat) (Option.some Jvm.ClassFile.FieldType.char)) : Cond) ∈ tables_1 := it3 (m81 (m81 (m81 (m9 (m9 (mt (mt (mt (mt mh)))))))))
theorem tq_584 : (.fieldLink "java/lang/StringUTF16" 44 "java/lang/StringUTF16" "$assertionsDisabled" "Z" : Cond) ∈ tables_1 := it3 (m81 (m81 (m81 (m9 (m9 (mt (mt (mt (mt (mt mh))))))))))
theorem tq_585 : (.laysStatic "java/lang/StringUTF16" "$assertionsDisabled" "Z" : Cond) ∈ tables_1 := it3 (m81 (m81 (m81 (m9 (m9 (mt (mt (mt (mt (mt (mt mh)))))))))))
theorem tq_586 : (.fieldLink "java/lang/StringUTF16" 59 "java/lang/StringUTF16" "HI_BYTE_SHIFT" "I" : Cond) ∈ tables_1 := it3 (m81 (m81 (m81 (m9 (m9 (mt (mt (mt (mt (mt (mt (mt mh))))))))))))
theorem tq_587 : (.laysStatic "java/lang/StringUTF16" "HI_BYTE_SHIFT" "I" : Cond) ∈ tables_1 := it3 (m81 (m81 (m81 (m9 (m9 (mt (mt (mt (mt (mt (mt (mt (mt mh)))))))))))))
theorem tq_588 : (.fieldLink "java/lang/StringUTF16" 63 "java/lang/StringUTF16" "LO_BYTE_SHIFT" "I" : Cond) ∈ tables_1 := it3 (m81 (m81 (m81 (m81 mh))))
theorem tq_589 : (.laysStatic "java/lang/StringUTF16" "LO_BYTE_SHIFT" "I" : Cond) ∈ tables_1 := it3 (m81 (m81 (m81 (m81 (mt mh)))))
theorem tq_590 : (.stringRef "TickPools$MarketReader" 52 "pool" : Cond) ∈ tables_1 := it3 (m81 (m81 (m81 (m81 (mt (mt mh))))))
theorem tq_591 : (.stringRef "TickPools$MarketReader" 54 "purse" : Cond) ∈ tables_1 := it3 (m81 (m81 (m81 (m81 (mt (mt (mt mh)))))))
theorem tq_592 : (.methodLink "TickPools$MarketReader" 56 yX9_blameWord : Cond) ∈ tables_1 := it3 (m81 (m81 (m81 (m81 (mt (mt (mt (mt mh))))))))
theorem tq_593 : (.instanceMethod yX9_blameWord : Cond) ∈ tables_1 := it3 (m81 (m81 (m81 (m81 (mt (mt (mt (mt (mt mh)))))))))
theorem tq_594 : (.selects "TickPools$Tape" yX9_blameWord yX9_blameWord : Cond) ∈ tables_1 := it3 (m81 (m81 (m81 (m81 (mt (mt (mt (mt (mt (mt mh))))))))))
theorem tq_595 : ((Jvm.Cond.code ({ cls := "TickPools$Tape", name := "blameWord", desc := "(I)Z" } : Jvm.MethodName) prog_11_method_12_code (2 : Nat) (Option.some Jvm.ClassFile.FieldType.boolean)) : Cond) ∈ tables_1 := it3 (m81 (m81 (m81 (m81 (mt (mt (mt (mt (mt (mt (mt mh)))))))))))
theorem tq_596 : (.methodLink "TickPools$MarketReader" 63 yX3_readSizes : Cond) ∈ tables_1 := it3 (m81 (m81 (m81 (m81 (mt (mt (mt (mt (mt (mt (mt (mt mh))))))))))))
theorem tq_597 : (.privateMethod yX3_readSizes : Cond) ∈ tables_1 := it3 (m81 (m81 (m81 (m81 (m9 mh)))))
theorem tq_598 : (.instanceMethod yX3_readSizes : Cond) ∈ tables_1 := it3 (m81 (m81 (m81 (m81 (m9 (mt mh))))))
theorem tq_599 : ((Jvm.Cond.code ({ cls := "TickPools$MarketReader", name := "readSizes", desc := "()Z" } : Jvm.MethodName) prog_5_method_4_code (1 : Nat) (Option.some Jvm.ClassFile.FieldType.boolean)) : Cond) ∈ tables_1 := it3 (m81 (m81 (m81 (m81 (m9 (mt (mt mh)))))))
theorem tq_600 : (.methodLink "TickPools$MarketReader" 72 yX9_readNumber : Cond) ∈ tables_1 := it3 (m81 (m81 (m81 (m81 (m9 (mt (mt (mt mh))))))))
theorem tq_601 : (.instanceMethod yX9_readNumber : Cond) ∈ tables_1 := it3 (m81 (m81 (m81 (m81 (m9 (mt (mt (mt (mt mh)))))))))
theorem tq_602 : (.selects "TickPools$Tape" yX9_readNumber yX9_readNumber : Cond) ∈ tables_1 := it3 (m81 (m81 (m81 (m81 (m9 (mt (mt (mt (mt (mt mh))))))))))
theorem tq_603 : ((Jvm.Cond.code ({ cls := "TickPools$Tape", name := "readNumber", desc := "(II)Z" } : Jvm.MethodName) prog_11_method_14_code (5 : Nat) (Option.some Jvm.ClassFile.FieldType.boolean)) : Cond) ∈ tables_1 := it3 (m81 (m81 (m81 (m81 (m9 (mt (mt (mt (mt (mt (mt mh)))))))))))
theorem tq_604 : (.methodLink "TickPools$Tape" 54 yX9_isDigit : Cond) ∈ tables_1 := it3 (m81 (m81 (m81 (m81 (m9 (mt (mt (mt (mt (mt (mt (mt mh))))))))))))
theorem tq_605 : (.static yX9_isDigit : Cond) ∈ tables_1 := it3 (m81 (m81 (m81 (m81 (m9 (mt (mt (mt (mt (mt (mt (mt (mt mh)))))))))))))
theorem tq_606 : ((Jvm.Cond.code ({ cls := "TickPools$Tape", name := "isDigit", desc := "(I)Z" } : Jvm.MethodName) prog_11_method_13_code (1 : Nat) (Option.some Jvm.ClassFile.FieldType.boolean)) : Cond) ∈ tables_1 := it3 (m81 (m81 (m81 (m81 (m9 (m9 mh))))))
theorem tq_607 : (.methodLink "TickPools$MarketReader" 66 yX3_readPool : Cond) ∈ tables_1 := it3 (m81 (m81 (m81 (m81 (m9 (m9 (mt mh)))))))
theorem tq_608 : (.privateMethod yX3_readPool : Cond) ∈ tables_1 := it3 (m81 (m81 (m81 (m81 (m9 (m9 (mt (mt mh))))))))
theorem tq_609 : (.instanceMethod yX3_readPool : Cond) ∈ tables_1 := it3 (m81 (m81 (m81 (m81 (m9 (m9 (mt (mt (mt mh)))))))))
theorem tq_610 : ((Jvm.Cond.code ({ cls := "TickPools$MarketReader", name := "readPool", desc := "()Z" } : Jvm.MethodName) prog_5_method_5_code (3 : Nat) (Option.some Jvm.ClassFile.FieldType.boolean)) : Cond) ∈ tables_1 := it3 (m81 (m81 (m81 (m81 (m9 (m9 (mt (mt (mt (mt mh))))))))))
theorem tq_611 : (.methodLink "TickPools$MarketReader" 85 yX2_newPool : Cond) ∈ tables_1 := it3 (m81 (m81 (m81 (m81 (m9 (m9 (mt (mt (mt (mt (mt mh)))))))))))
theorem tq_612 : (.instanceMethod yX2_newPool : Cond) ∈ tables_1 := it3 (m81 (m81 (m81 (m81 (m9 (m9 (mt (mt (mt (mt (mt (mt mh))))))))))))
theorem tq_613 : (.selects "TickPools$Market" yX2_newPool yX2_newPool : Cond) ∈ tables_1 := it3 (m81 (m81 (m81 (m81 (m9 (m9 (mt (mt (mt (mt (mt (mt (mt mh)))))))))))))
theorem tq_614 : ((Jvm.Cond.code ({ cls := "TickPools$Market", name := "newPool", desc := "()LTickPools$Pool;" } : Jvm.MethodName) prog_4_method_8_code (1 : Nat) (Option.some (Jvm.ClassFile.FieldType.object "TickPools$Pool"))) : Cond) ∈ tables_1 := it3 (m81 (m81 (m81 (m81 (m9 (m9 (mt (mt (mt (mt (mt (mt (mt (mt mh))))))))))))))
theorem tq_615 : (.methodLink "TickPools$MarketReader" 94 yX9_readNumberBut : Cond) ∈ tables_1 := it3 (m81 (m81 (m81 (m81 (m81 mh)))))
theorem tq_616 : (.instanceMethod yX9_readNumberBut : Cond) ∈ tables_1 := it3 (m81 (m81 (m81 (m81 (m81 (mt mh))))))
theorem tq_617 : (.selects "TickPools$Tape" yX9_readNumberBut yX9_readNumberBut : Cond) ∈ tables_1 := it3 (m81 (m81 (m81 (m81 (m81 (mt (mt mh)))))))
theorem tq_618 : ((Jvm.Cond.code ({ cls := "TickPools$Tape", name := "readNumberBut", desc := "(II)Z" } : Jvm.MethodName) prog_11_method_15_code (4 : Nat) (Option.some Jvm.ClassFile.FieldType.boolean)) : Cond) ∈ tables_1 := it3 (m81 (m81 (m81 (m81 (m81 (mt (mt (mt mh))))))))
theorem tq_619 : (.methodLink "TickPools$Tape" 58 yX9_readNumber : Cond) ∈ tables_1 := it3 (m81 (m81 (m81 (m81 (m81 (mt (mt (mt (mt mh)))))))))
theorem tq_620 : (.methodLink "TickPools$MarketReader" 109 yX4_open : Cond) ∈ tables_1 := it3 (m81 (m81 (m81 (m81 (m81 (mt (mt (mt (mt (mt mh))))))))))
theorem tq_621 : (.instanceMethod yX4_open : Cond) ∈ tables_1 := it3 (m81 (m81 (m81 (m81 (m81 (mt (mt (mt (mt (mt (mt mh)))))))))))
theorem tq_622 : (.selects "TickPools$Pool" yX4_open yX4_open : Cond) ∈ tables_1 := it3 (m81 (m81 (m81 (m81 (m81 (mt (mt (mt (mt (mt (mt (mt mh))))))))))))
theorem tq_623 : ((Jvm.Cond.code ({ cls := "TickPools$Pool", name := "open", desc := "(II)V" } : Jvm.MethodName) prog_6_method_2_code (3 : Nat) (Option.none : Option Jvm.ClassFile.FieldType)) : Cond) ∈ tables_1 := it3 (m81 (m81 (m81 (m81 (m81 (mt (mt (mt (mt (mt (mt (mt (mt mh)))))))))))))
theorem tq_624 : (.methodLink "TickPools$Pool" 24 yX0_startRoot : Cond) ∈ tables_1 := it3 (m81 (m81 (m81 (m81 (m81 (m9 mh))))))
theorem tq_625 : (.static yX0_startRoot : Cond) ∈ tables_1 := it3 (m81 (m81 (m81 (m81 (m81 (m9 (mt mh)))))))
theorem tq_626 : ((Jvm.Cond.code ({ cls := "TickPools$Curve", name := "startRoot", desc := "(II)I" } : Jvm.MethodName) prog_2_method_4_code (11 : Nat) (Option.some Jvm.ClassFile.FieldType.int)) : Cond) ∈ tables_1 := it3 (m81 (m81 (m81 (m81 (m81 (m9 (mt (mt mh))))))))
theorem tq_627 : (.constantLong "TickPools$Curve" 19 10000000000 : Cond) ∈ tables_1 := it3 (m81 (m81 (m81 (m81 (m81 (m9 (mt (mt (mt mh)))))))))
theorem tq_628 : (.methodLink "TickPools$Curve" 15 yX0_rootAt : Cond) ∈ tables_1 := it3 (m81 (m81 (m81 (m81 (m81 (m9 (mt (mt (mt (mt mh))))))))))
theorem tq_629 : (.static yX0_rootAt : Cond) ∈ tables_1 := it3 (m81 (m81 (m81 (m81 (m81 (m9 (mt (mt (mt (mt (mt mh)))))))))))
theorem tq_630 : ((Jvm.Cond.code ({ cls := "TickPools$Curve", name := "rootAt", desc := "(I)I" } : Jvm.MethodName) prog_2_method_2_code (2 : Nat) (Option.some Jvm.ClassFile.FieldType.int)) : Cond) ∈ tables_1 := it3 (m81 (m81 (m81 (m81 (m81 (m9 (mt (mt (mt (mt (mt (mt mh))))))))))))
theorem tq_631 : (.fieldLink "TickPools$Curve" 9 "TickPools$Curve" "ROOTS" "[I" : Cond) ∈ tables_1 := it3 (m81 (m81 (m81 (m81 (m81 (m9 (mt (mt (mt (mt (mt (mt (mt mh)))))))))))))
theorem tq_632 : (.laysStatic "TickPools$Curve" "ROOTS" "[I" : Cond) ∈ tables_1 := it3 (m81 (m81 (m81 (m81 (m81 (m9 (mt (mt (mt (mt (mt (mt (mt (mt mh))))))))))))))
theorem tq_633 : (.constantLong "TickPools$Curve" 21 2 : Cond) ∈ tables_1 := it3 (m81 (m81 (m81 (m81 (m81 (m9 (m9 mh)))))))
theorem tq_634 : (.methodLink "TickPools$Pool" 34 yX0_zoneOf : Cond) ∈ tables_1 := it3 (m81 (m81 (m81 (m81 (m81 (m9 (m9 (mt mh))))))))
theorem tq_635 : (.static yX0_zoneOf : Cond) ∈ tables_1 := it3 (m81 (m81 (m81 (m81 (m81 (m9 (m9 (mt (mt mh)))))))))
theorem tq_636 : ((Jvm.Cond.code ({ cls := "TickPools$Curve", name := "zoneOf", desc := "(I)I" } : Jvm.MethodName) prog_2_method_3_code (2 : Nat) (Option.some Jvm.ClassFile.FieldType.int)) : Cond) ∈ tables_1 := it3 (m81 (m81 (m81 (m81 (m81 (m9 (m9 (mt (mt (mt mh))))))))))
theorem tq_637 : (.methodLink "TickPools$MarketReader" 69 yX3_readPurse : Cond) ∈ tables_1 := it3 (m81 (m81 (m81 (m81 (m81 (m9 (m9 (mt (mt (mt (mt mh)))))))))))
theorem tq_638 : (.privateMethod yX3_readPurse : Cond) ∈ tables_1 := it3 (m81 (m81 (m81 (m81 (m81 (m9 (m9 (mt (mt (mt (mt (mt mh))))))))))))
theorem tq_639 : (.instanceMethod yX3_readPurse : Cond) ∈ tables_1 := it3 (m81 (m81 (m81 (m81 (m81 (m9 (m9 (mt (mt (mt (mt (mt (mt mh)))))))))))))
theorem tq_640 : ((Jvm.Cond.code ({ cls := "TickPools$MarketReader", name := "readPurse", desc := "()Z" } : Jvm.MethodName) prog_5_method_6_code (3 : Nat) (Option.some Jvm.ClassFile.FieldType.boolean)) : Cond) ∈ tables_1 := it3 (m81 (m81 (m81 (m81 (m81 (m9 (m9 (mt (mt (mt (mt (mt (mt (mt mh))))))))))))))
theorem tq_641 : (.constant "TickPools$MarketReader" 113 9999999 : Cond) ∈ tables_1 := it3 (m81 (m81 (m81 (m81 (m81 (m9 (m9 (mt (mt (mt (mt (mt (mt (mt (mt mh)))))))))))))))
theorem tq_642 : (.methodLink "TickPools$MarketReader" 114 yX2_purseOf : Cond) ∈ tables_1 := it3 (m81 (m81 (m81 (m81 (m81 (m81 mh))))))
theorem tq_643 : (.instanceMethod yX2_purseOf : Cond) ∈ tables_1 := it3 (m81 (m81 (m81 (m81 (m81 (m81 (mt mh)))))))
theorem tq_644 : (.selects "TickPools$Market" yX2_purseOf yX2_purseOf : Cond) ∈ tables_1 := it3 (m81 (m81 (m81 (m81 (m81 (m81 (mt (mt mh))))))))
theorem tq_645 : ((Jvm.Cond.code ({ cls := "TickPools$Market", name := "purseOf", desc := "(II)I" } : Jvm.MethodName) prog_4_method_9_code (4 : Nat) (Option.some Jvm.ClassFile.FieldType.int)) : Cond) ∈ tables_1 := it3 (m81 (m81 (m81 (m81 (m81 (m81 (mt (mt (mt mh)))))))))
theorem tq_646 : (.methodLink "TickPools$MarketReader" 118 yX2_putIntoPurse : Cond) ∈ tables_1 := it3 (m81 (m81 (m81 (m81 (m81 (m81 (mt (mt (mt (mt mh))))))))))
theorem tq_647 : (.instanceMethod yX2_putIntoPurse : Cond) ∈ tables_1 := it3 (m81 (m81 (m81 (m81 (m81 (m81 (mt (mt (mt (mt (mt mh)))))))))))
theorem tq_648 : (.selects "TickPools$Market" yX2_putIntoPurse yX2_putIntoPurse : Cond) ∈ tables_1 := it3 (m81 (m81 (m81 (m81 (m81 (m81 (mt (mt (mt (mt (mt (mt mh))))))))))))
theorem tq_649 : ((Jvm.Cond.code ({ cls := "TickPools$Market", name := "putIntoPurse", desc := "(III)V" } : Jvm.MethodName) prog_4_method_10_code (5 : Nat) (Option.none : Option Jvm.ClassFile.FieldType)) : Cond) ∈ tables_1 := it3 (m81 (m81 (m81 (m81 (m81 (m81 (mt (mt (mt (mt (mt (mt (mt mh)))))))))))))
theorem tq_650 : (.methodLink "TickPools$MarketReader" 33 yX9_peek : Cond) ∈ tables_1 := it3 (m81 (m81 (m81 (m81 (m81 (m81 (mt (mt (mt (mt (mt (mt (mt (mt mh))))))))))))))
theorem tq_651 : (.methodLink "TickPools$MarketReader" 37 yX9_accept : Cond) ∈ tables_1 := it3 (m81 (m81 (m81 (m81 (m81 (m81 (m9 mh)))))))
theorem tq_652 : (.instanceMethod yX9_accept : Cond) ∈ tables_1 := it3 (m81 (m81 (m81 (m81 (m81 (m81 (m9 (mt mh))))))))
theorem tq_653 : (.selects "TickPools$Tape" yX9_accept yX9_accept : Cond) ∈ tables_1 := it3 (m81 (m81 (m81 (m81 (m81 (m81 (m9 (mt (mt mh)))))))))
theorem tq_654 : ((Jvm.Cond.code ({ cls := "TickPools$Tape", name := "accept", desc := "(I)Z" } : Jvm.MethodName) prog_11_method_8_code (2 : Nat) (Option.some Jvm.ClassFile.FieldType.boolean)) : Cond) ∈ tables_1 := it3 (m81 (m81 (m81 (m81 (m81 (m81 (m9 (mt (mt (mt mh))))))))))
theorem tq_655 : (.methodLink "TickPools$MarketReader" 40 yX9_blameHere : Cond) ∈ tables_1 := it3 (m81 (m81 (m81 (m81 (m81 (m81 (m9 (mt (mt (mt (mt mh)))))))))))
theorem tq_656 : (.instanceMethod yX9_blameHere : Cond) ∈ tables_1 := it3 (m81 (m81 (m81 (m81 (m81 (m81 (m9 (mt (mt (mt (mt (mt mh))))))))))))
theorem tq_657 : (.selects "TickPools$Tape" yX9_blameHere yX9_blameHere : Cond) ∈ tables_1 := it3 (m81 (m81 (m81 (m81 (m81 (m81 (m9 (mt (mt (mt (mt (mt (mt mh)))))))))))))
theorem tq_658 : ((Jvm.Cond.code ({ cls := "TickPools$Tape", name := "blameHere", desc := "(I)Z" } : Jvm.MethodName) prog_11_method_9_code (2 : Nat) (Option.some Jvm.ClassFile.FieldType.boolean)) : Cond) ∈ tables_1 := it3 (m81 (m81 (m81 (m81 (m81 (m81 (m9 (mt (mt (mt (mt (mt (mt (mt mh))))))))))))))
theorem tq_659 : (.methodLink "TickPools" 87 yX2_copyFrom : Cond) ∈ tables_1 := it3 (m81 (m81 (m81 (m81 (m81 (m81 (m9 (mt (mt (mt (mt (mt (mt (mt (mt mh)))))))))))))))
theorem tq_660 : (.instanceMethod yX2_copyFrom : Cond) ∈ tables_1 := it3 (m81 (m81 (m81 (m81 (m81 (m81 (m9 (m9 mh))))))))
theorem tq_661 : (.selects "TickPools$Market" yX2_copyFrom yX2_copyFrom : Cond) ∈ tables_1 := it3 (m81 (m81 (m81 (m81 (m81 (m81 (m9 (m9 (mt mh)))))))))
theorem tq_662 : ((Jvm.Cond.code ({ cls := "TickPools$Market", name := "copyFrom", desc := "(LTickPools$Market;)V" } : Jvm.MethodName) prog_4_method_3_code (3 : Nat) (Option.none : Option Jvm.ClassFile.FieldType)) : Cond) ∈ tables_1 := it3 (m81 (m81 (m81 (m81 (m81 (m81 (m9 (m9 (mt (mt mh))))))))))
theorem tq_663 : (.methodLink "TickPools$Market" 48 ⟨"java/lang/System", "arraycopy", "(Ljava/lang/Object;ILjava/lang/Object;II)V"⟩ : Cond) ∈ tables_1 := it3 (m81 (m81 (m81 (m81 (m81 (m81 (m9 (m9 (mt (mt (mt mh)))))))))))
theorem tq_664 : (.static ⟨"java/lang/System", "arraycopy", "(Ljava/lang/Object;ILjava/lang/Object;II)V"⟩ : Cond) ∈ tables_1 := it3 (m81 (m81 (m81 (m81 (m81 (m81 (m9 (m9 (mt (mt (mt (mt mh))))))))))))
theorem tq_665 : (.native ⟨"java/lang/System", "arraycopy", "(Ljava/lang/Object;ILjava/lang/Object;II)V"⟩ : Cond) ∈ tables_1 := it3 (m81 (m81 (m81 (m81 (m81 (m81 (m9 (m9 (mt (mt (mt (mt (mt mh)))))))))))))
theorem tq_666 : (.methodLink "TickPools$Market" 54 yX4_copyFrom : Cond) ∈ tables_1 := it3 (m81 (m81 (m81 (m81 (m81 (m81 (m9 (m9 (mt (mt (mt (mt (mt (mt mh))))))))))))))
theorem tq_667 : (.instanceMethod yX4_copyFrom : Cond) ∈ tables_1 := it3 (m81 (m81 (m81 (m81 (m81 (m81 (m9 (m9 (mt (mt (mt (mt (mt (mt (mt mh)))))))))))))))
theorem tq_668 : (.selects "TickPools$Pool" yX4_copyFrom yX4_copyFrom : Cond) ∈ tables_1 := it3 (m81 (m81 (m81 (m81 (m81 (m81 (m9 (m9 (mt (mt (mt (mt (mt (mt (mt (mt mh))))))))))))))))
theorem tq_669 : ((Jvm.Cond.code ({ cls := "TickPools$Pool", name := "copyFrom", desc := "(LTickPools$Pool;)V" } : Jvm.MethodName) prog_6_method_3_code (2 : Nat) (Option.none : Option Jvm.ClassFile.FieldType)) : Cond) ∈ tables_1 := it3 (m81 (m81 (m81 (m81 (m81 (m81 (m81 mh)))))))
theorem tq_670 : (.methodLink "TickPools$Pool" 59 ⟨"java/lang/System", "arraycopy", "(Ljava/lang/Object;ILjava/lang/Object;II)V"⟩ : Cond) ∈ tables_1 := it3 (m81 (m81 (m81 (m81 (m81 (m81 (m81 (mt mh))))))))
theorem tq_671 : (.methodLink "TickPools$Market" 58 yX7_copyFrom : Cond) ∈ tables_1 := it3 (m81 (m81 (m81 (m81 (m81 (m81 (m81 (mt (mt mh)))))))))
theorem tq_672 : (.instanceMethod yX7_copyFrom : Cond) ∈ tables_1 := it3 (m81 (m81 (m81 (m81 (m81 (m81 (m81 (mt (mt (mt mh))))))))))
theorem tq_673 : (.selects "TickPools$Stake" yX7_copyFrom yX7_copyFrom : Cond) ∈ tables_1 := it3 (m81 (m81 (m81 (m81 (m81 (m81 (m81 (mt (mt (mt (mt mh)))))))))))
theorem tq_674 : ((Jvm.Cond.code ({ cls := "TickPools$Stake", name := "copyFrom", desc := "(LTickPools$Stake;)V" } : Jvm.MethodName) prog_9_method_3_code (3 : Nat) (Option.none : Option Jvm.ClassFile.FieldType)) : Cond) ∈ tables_1 := it3 (m81 (m81 (m81 (m81 (m81 (m81 (m81 (mt (mt (mt (mt (mt mh))))))))))))
theorem tq_675 : (.methodLink "TickPools$Stake" 35 yX7_open : Cond) ∈ tables_1 := it3 (m81 (m81 (m81 (m81 (m81 (m81 (m81 (mt (mt (mt (mt (mt (mt mh)))))))))))))
theorem tq_676 : (.instanceMethod yX7_open : Cond) ∈ tables_1 := it3 (m81 (m81 (m81 (m81 (m81 (m81 (m81 (mt (mt (mt (mt (mt (mt (mt mh))))))))))))))
theorem tq_677 : (.selects "TickPools$Stake" yX7_open yX7_open : Cond) ∈ tables_1 := it3 (m81 (m81 (m81 (m81 (m81 (m81 (m81 (mt (mt (mt (mt (mt (mt (mt (mt mh)))))))))))))))
theorem tq_678 : ((Jvm.Cond.code ({ cls := "TickPools$Stake", name := "open", desc := "(IIIII)V" } : Jvm.MethodName) prog_9_method_2_code (7 : Nat) (Option.none : Option Jvm.ClassFile.FieldType)) : Cond) ∈ tables_1 := it3 (m81 (m81 (m81 (m81 (m81 (m81 (m81 (m9 mh))))))))
theorem tq_679 : (.methodLink "TickPoolsLaw" 28 yX11_bundle : Cond) ∈ tables_1 := it3 (m81 (m81 (m81 (m81 (m81 (m81 (m81 (m9 (mt mh)))))))))
theorem tq_680 : (.instanceMethod yX11_bundle : Cond) ∈ tables_1 := it3 (m81 (m81 (m81 (m81 (m81 (m81 (m81 (m9 (mt (mt mh))))))))))
theorem tq_681 : (.selects "TickPools" yX11_bundle yX11_bundle : Cond) ∈ tables_1 := it3 (m81 (m81 (m81 (m81 (m81 (m81 (m81 (m9 (mt (mt (mt mh)))))))))))
theorem tq_682 : ((Jvm.Cond.code ({ cls := "TickPools", name := "bundle", desc := "(I)I" } : Jvm.MethodName) prog_1_method_5_code (4 : Nat) (Option.some Jvm.ClassFile.FieldType.int)) : Cond) ∈ tables_1 := it3 (m81 (m81 (m81 (m81 (m81 (m81 (m81 (m9 (mt (mt (mt (mt mh))))))))))))
theorem tq_683 : (.methodLink "TickPools" 94 yX2_hasPerson : Cond) ∈ tables_1 := it3 (m81 (m81 (m81 (m81 (m81 (m81 (m81 (m9 (mt (mt (mt (mt (mt mh)))))))))))))
theorem tq_684 : (.instanceMethod yX2_hasPerson : Cond) ∈ tables_1 := it3 (m81 (m81 (m81 (m81 (m81 (m81 (m81 (m9 (mt (mt (mt (mt (mt (mt mh))))))))))))))
theorem tq_685 : (.selects "TickPools$Market" yX2_hasPerson yX2_hasPerson : Cond) ∈ tables_1 := it3 (m81 (m81 (m81 (m81 (m81 (m81 (m81 (m9 (mt (mt (mt (mt (mt (mt (mt mh)))))))))))))))
theorem tq_686 : ((Jvm.Cond.code ({ cls := "TickPools$Market", name := "hasPerson", desc := "(I)Z" } : Jvm.MethodName) prog_4_method_5_code (2 : Nat) (Option.some Jvm.ClassFile.FieldType.boolean)) : Cond) ∈ tables_1 := it3 (m81 (m81 (m81 (m81 (m81 (m81 (m81 (m9 (mt (mt (mt (mt (mt (mt (mt (mt mh))))))))))))))))
theorem tq_687 : (.methodLink "TickPools" 98 yX6_compile : Cond) ∈ tables_1 := it3 (m81 (m81 (m81 (m81 (m81 (m81 (m81 (m9 (m9 mh)))))))))
theorem tq_688 : (.instanceMethod yX6_compile : Cond) ∈ tables_1 := it3 (m81 (m81 (m81 (m81 (m81 (m81 (m81 (m9 (m9 (mt mh))))))))))
theorem tq_689 : (.selects "TickPools$Script" yX6_compile yX6_compile : Cond) ∈ tables_1 := it3 (m81 (m81 (m81 (m81 (m81 (m81 (m81 (m9 (m9 (mt (mt mh)))))))))))
theorem tq_690 : ((Jvm.Cond.code ({ cls := "TickPools$Script", name := "compile", desc := "()Z" } : Jvm.MethodName) prog_8_method_3_code (3 : Nat) (Option.some Jvm.ClassFile.FieldType.boolean)) : Cond) ∈ tables_1 := it3 (m81 (m81 (m81 (m81 (m81 (m81 (m81 (m9 (m9 (mt (mt (mt mh))))))))))))
theorem tq_691 : (.methodLink "TickPools$Script" 30 yX9_rewind : Cond) ∈ tables_1 := it3 (m81 (m81 (m81 (m81 (m81 (m81 (m81 (m9 (m9 (mt (mt (mt (mt mh)))))))))))))
theorem tq_692 : (.methodLink "TickPools$Script" 38 yX6_readStep : Cond) ∈ tables_1 := it3 (m81 (m81 (m81 (m81 (m81 (m81 (m81 (m9 (m9 (mt (mt (mt (mt (mt mh))))))))))))))
theorem tq_693 : (.privateMethod yX6_readStep : Cond) ∈ tables_1 := it3 (m81 (m81 (m81 (m81 (m81 (m81 (m81 (m9 (m9 (mt (mt (mt (mt (mt (mt mh)))))))))))))))
theorem tq_694 : (.instanceMethod yX6_readStep : Cond) ∈ tables_1 := it3 (m81 (m81 (m81 (m81 (m81 (m81 (m81 (m9 (m9 (mt (mt (mt (mt (mt (mt (mt mh))))))))))))))))
theorem tq_695 : ((Jvm.Cond.code ({ cls := "TickPools$Script", name := "readStep", desc := "()Z" } : Jvm.MethodName) prog_8_method_6_code (3 : Nat) (Option.some Jvm.ClassFile.FieldType.boolean)) : Cond) ∈ tables_1 := it3 (m81 (m81 (m81 (m81 (m81 (m81 (m81 (m9 (m9 (mt (mt (mt (mt (mt (mt (mt (mt mh)))))))))))))))))
theorem tq_696 : (.methodLink "TickPools$Script" 69 yX9_readWord : Cond) ∈ tables_1 := it3 (m81 (m81 (m81 (m81 (m81 (m81 (m81 (m81 mh))))))))
theorem tq_697 : (.methodLink "TickPools$Script" 72 yX6_kindOfWord : Cond) ∈ tables_1 := it3 (m81 (m81 (m81 (m81 (m81 (m81 (m81 (m81 (mt mh)))))))))
theorem tq_698 : (.privateMethod yX6_kindOfWord : Cond) ∈ tables_1 := it3 (m81 (m81 (m81 (m81 (m81 (m81 (m81 (m81 (mt (mt mh))))))))))
theorem tq_699 : (.instanceMethod yX6_kindOfWord : Cond) ∈ tables_1 := it3 (m81 (m81 (m81 (m81 (m81 (m81 (m81 (m81 (mt (mt (mt mh)))))))))))
theorem tq_700 : ((Jvm.Cond.code ({ cls := "TickPools$Script", name := "kindOfWord", desc := "()I" } : Jvm.MethodName) prog_8_method_7_code (1 : Nat) (Option.some Jvm.ClassFile.FieldType.int)) : Cond) ∈ tables_1 := it3 (m81 (m81 (m81 (m81 (m81 (m81 (m81 (m81 (mt (mt (mt (mt mh))))))))))))
theorem tq_701 : (.stringRef "TickPools$Script" 105 "in" : Cond) ∈ tables_1 := it3 (m81 (m81 (m81 (m81 (m81 (m81 (m81 (m81 (mt (mt (mt (mt (mt mh)))))))))))))
theorem tq_702 : (.methodLink "TickPools$Script" 107 yX9_wordIs : Cond) ∈ tables_1 := it3 (m81 (m81 (m81 (m81 (m81 (m81 (m81 (m81 (mt (mt (mt (mt (mt (mt mh))))))))))))))
theorem tq_703 : (.stringRef "TickPools$Script" 111 "out" : Cond) ∈ tables_1 := it3 (m81 (m81 (m81 (m81 (m81 (m81 (m81 (m81 (mt (mt (mt (mt (mt (mt (mt mh)))))))))))))))
theorem tq_704 : (.stringRef "TickPools$Script" 113 "add" : Cond) ∈ tables_1 := it3 (m81 (m81 (m81 (m81 (m81 (m81 (m81 (m81 (mt (mt (mt (mt (mt (mt (mt (mt mh))))))))))))))))
theorem tq_705 : (.stringRef "TickPools$Script" 115 "drop" : Cond) ∈ tables_1 := it3 (m81 (m81 (m81 (m81 (m81 (m81 (m81 (m81 (m9 mh)))))))))
theorem tq_706 : (.stringRef "TickPools$Script" 117 "least" : Cond) ∈ tables_1 := it3 (m81 (m81 (m81 (m81 (m81 (m81 (m81 (m81 (m9 (mt mh))))))))))
theorem tq_707 : (.stringRef "TickPools$Script" 119 "lend" : Cond) ∈ tables_1 := it3 (m81 (m81 (m81 (m81 (m81 (m81 (m81 (m81 (m9 (mt (mt mh)))))))))))
theorem tq_708 : (.stringRef "TickPools$Script" 121 "times" : Cond) ∈ tables_1 := it3 (m81 (m81 (m81 (m81 (m81 (m81 (m81 (m81 (m9 (mt (mt (mt mh))))))))))))
theorem tq_709 : (.methodLink "TickPools$Script" 75 yX9_blameWord : Cond) ∈ tables_1 := it3 (m81 (m81 (m81 (m81 (m81 (m81 (m81 (m81 (m9 (mt (mt (mt (mt mh)))))))))))))
theorem tq_710 : (.methodLink "TickPools$Script" 87 yX6_readRange : Cond) ∈ tables_1 := it3 (m81 (m81 (m81 (m81 (m81 (m81 (m81 (m81 (m9 (mt (mt (mt (mt (mt mh))))))))))))))
theorem tq_711 : (.privateMethod yX6_readRange : Cond) ∈ tables_1 := it3 (m81 (m81 (m81 (m81 (m81 (m81 (m81 (m81 (m9 (mt (mt (mt (mt (mt (mt mh)))))))))))))))
theorem tq_712 : (.instanceMethod yX6_readRange : Cond) ∈ tables_1 := it3 (m81 (m81 (m81 (m81 (m81 (m81 (m81 (m81 (m9 (mt (mt (mt (mt (mt (mt (mt mh))))))))))))))))
theorem tq_713 : ((Jvm.Cond.code ({ cls := "TickPools$Script", name := "readRange", desc := "(LTickPools$Step;)Z" } : Jvm.MethodName) prog_8_method_9_code (2 : Nat) (Option.some Jvm.ClassFile.FieldType.boolean)) : Cond) ∈ tables_1 := it3 (m81 (m81 (m81 (m81 (m81 (m81 (m81 (m81 (m9 (mt (mt (mt (mt (mt (mt (mt (mt mh)))))))))))))))))
theorem tq_714 : (.methodLink "TickPools$Script" 123 yX9_readNumber : Cond) ∈ tables_1 := it3 (m81 (m81 (m81 (m81 (m81 (m81 (m81 (m81 (m9 (m9 mh))))))))))
theorem tq_715 : (.constant "TickPools$Script" 91 99999 : Cond) ∈ tables_1 := it3 (m81 (m81 (m81 (m81 (m81 (m81 (m81 (m81 (m9 (m9 (mt mh)))))))))))
theorem tq_716 : (.methodLink "TickPools$Script" 92 yX6_readAmount : Cond) ∈ tables_1 := it3 (m81 (m81 (m81 (m81 (m81 (m81 (m81 (m81 (m9 (m9 (mt (mt mh))))))))))))
theorem tq_717 : (.privateMethod yX6_readAmount : Cond) ∈ tables_1 := it3 (m81 (m81 (m81 (m81 (m81 (m81 (m81 (m81 (m9 (m9 (mt (mt (mt mh)))))))))))))
theorem tq_718 : (.instanceMethod yX6_readAmount : Cond) ∈ tables_1 := it3 (m81 (m81 (m81 (m81 (m81 (m81 (m81 (m81 (m9 (m9 (mt (mt (mt (mt mh))))))))))))))
theorem tq_719 : ((Jvm.Cond.code ({ cls := "TickPools$Script", name := "readAmount", desc := "(LTickPools$Step;II)Z" } : Jvm.MethodName) prog_8_method_11_code (4 : Nat) (Option.some Jvm.ClassFile.FieldType.boolean)) : Cond) ∈ tables_1 := it3 (m81 (m81 (m81 (m81 (m81 (m81 (m81 (m81 (m9 (m9 (mt (mt (mt (mt (mt mh)))))))))))))))
theorem tq_720 : (.methodLink "TickPools$Script" 96 yX6_readLeast : Cond) ∈ tables_1 := it4 mh
theorem tq_721 : (.privateMethod yX6_readLeast : Cond) ∈ tables_1 := it4 (mt mh)
theorem tq_722 : (.instanceMethod yX6_readLeast : Cond) ∈ tables_1 := it4 (mt (mt mh))
theorem tq_723 : ((Jvm.Cond.code ({ cls := "TickPools$Script", name := "readLeast", desc := "(LTickPools$Step;)Z" } : Jvm.MethodName) prog_8_method_10_code (2 : Nat) (Option.some Jvm.ClassFile.FieldType.boolean)) : Cond) ∈ tables_1 := it4 (mt (mt (mt mh)))
theorem tq_724 : (.constant "TickPools$Script" 145 9999999 : Cond) ∈ tables_1 := it4 (mt (mt (mt (mt mh))))
theorem tq_725 : (.methodLink "TickPools$Script" 99 yX6_readPoolAndSide : Cond) ∈ tables_1 := it4 (mt (mt (mt (mt (mt mh)))))
theorem tq_726 : (.privateMethod yX6_readPoolAndSide : Cond) ∈ tables_1 := it4 (mt (mt (mt (mt (mt (mt mh))))))
theorem tq_727 : (.instanceMethod yX6_readPoolAndSide : Cond) ∈ tables_1 := it4 (mt (mt (mt (mt (mt (mt (mt mh)))))))
theorem tq_728 : ((Jvm.Cond.code ({ cls := "TickPools$Script", name := "readPoolAndSide", desc := "(LTickPools$Step;)Z" } : Jvm.MethodName) prog_8_method_8_code (2 : Nat) (Option.some Jvm.ClassFile.FieldType.boolean)) : Cond) ∈ tables_1 := it4 (mt (mt (mt (mt (mt (mt (mt (mt mh))))))))
theorem tq_729 : (.methodLink "TickPools$Script" 102 yX6_readMuch : Cond) ∈ tables_1 := it4 (m9 mh)
theorem tq_730 : (.privateMethod yX6_readMuch : Cond) ∈ tables_1 := it4 (m9 (mt mh))
theorem tq_731 : (.instanceMethod yX6_readMuch : Cond) ∈ tables_1 := it4 (m9 (mt (mt mh)))
theorem tq_732 : ((Jvm.Cond.code ({ cls := "TickPools$Script", name := "readMuch", desc := "(LTickPools$Step;)Z" } : Jvm.MethodName) prog_8_method_12_code (2 : Nat) (Option.some Jvm.ClassFile.FieldType.boolean)) : Cond) ∈ tables_1 := it4 (m9 (mt (mt (mt mh))))
theorem tq_733 : (.methodLink "TickPools$Script" 55 yX9_peek : Cond) ∈ tables_1 := it4 (m9 (mt (mt (mt (mt mh)))))
theorem tq_734 : (.methodLink "TickPools$Script" 152 yX9_isDigit : Cond) ∈ tables_1 := it4 (m9 (mt (mt (mt (mt (mt mh))))))
theorem tq_735 : (.stringRef "TickPools$Script" 155 "all" : Cond) ∈ tables_1 := it4 (m9 (mt (mt (mt (mt (mt (mt mh)))))))
theorem tq_736 : (.stringRef "TickPools$Script" 157 "got" : Cond) ∈ tables_1 := it4 (m9 (mt (mt (mt (mt (mt (mt (mt mh))))))))
theorem tq_737 : (.methodLink "TickPools$Script" 42 yX6_stepAt : Cond) ∈ tables_1 := it4 (m9 (mt (mt (mt (mt (mt (mt (mt (mt mh)))))))))
theorem tq_738 : (.instanceMethod yX6_stepAt : Cond) ∈ tables_1 := it4 (m9 (m9 mh))
theorem tq_739 : (.selects "TickPools$Script" yX6_stepAt yX6_stepAt : Cond) ∈ tables_1 := it4 (m9 (m9 (mt mh)))
theorem tq_740 : ((Jvm.Cond.code ({ cls := "TickPools$Script", name := "stepAt", desc := "(I)LTickPools$Step;" } : Jvm.MethodName) prog_8_method_2_code (2 : Nat) (Option.some (Jvm.ClassFile.FieldType.object "TickPools$Step"))) : Cond) ∈ tables_1 := it4 (m9 (m9 (mt (mt mh))))
theorem tq_741 : (.methodLink "TickPools$Script" 46 yX8_hasBrackets : Cond) ∈ tables_1 := it4 (m9 (m9 (mt (mt (mt mh)))))
theorem tq_742 : (.instanceMethod yX8_hasBrackets : Cond) ∈ tables_1 := it4 (m9 (m9 (mt (mt (mt (mt mh))))))
theorem tq_743 : (.selects "TickPools$Step" yX8_hasBrackets yX8_hasBrackets : Cond) ∈ tables_1 := it4 (m9 (m9 (mt (mt (mt (mt (mt mh)))))))
theorem tq_744 : ((Jvm.Cond.code ({ cls := "TickPools$Step", name := "hasBrackets", desc := "()Z" } : Jvm.MethodName) prog_10_method_2_code (1 : Nat) (Option.some Jvm.ClassFile.FieldType.boolean)) : Cond) ∈ tables_1 := it4 (m9 (m9 (mt (mt (mt (mt (mt (mt mh))))))))
theorem tq_745 : (.methodLink "TickPools$Script" 49 yX6_openBracket : Cond) ∈ tables_1 := it4 (m9 (m9 (mt (mt (mt (mt (mt (mt (mt mh)))))))))
theorem tq_746 : (.privateMethod yX6_openBracket : Cond) ∈ tables_1 := it4 (m9 (m9 (mt (mt (mt (mt (mt (mt (mt (mt mh))))))))))
theorem tq_747 : (.instanceMethod yX6_openBracket : Cond) ∈ tables_1 := it4 (m81 mh)
theorem tq_748 : ((Jvm.Cond.code ({ cls := "TickPools$Script", name := "openBracket", desc := "()Z" } : Jvm.MethodName) prog_8_method_4_code (1 : Nat) (Option.some Jvm.ClassFile.FieldType.boolean)) : Cond) ∈ tables_1 := it4 (m81 (mt mh))
theorem tq_749 : (.methodLink "TickPools$Script" 63 yX9_blameHere : Cond) ∈ tables_1 := it4 (m81 (mt (mt mh)))
theorem tq_750 : (.methodLink "TickPools$Script" 59 yX9_accept : Cond) ∈ tables_1 := it4 (m81 (mt (mt (mt mh))))
theorem tq_751 : (.methodLink "TickPools$Script" 52 yX6_closeBrackets : Cond) ∈ tables_1 := it4 (m81 (mt (mt (mt (mt mh)))))
theorem tq_752 : (.privateMethod yX6_closeBrackets : Cond) ∈ tables_1 := it4 (m81 (mt (mt (mt (mt (mt mh))))))
theorem tq_753 : (.instanceMethod yX6_closeBrackets : Cond) ∈ tables_1 := it4 (m81 (mt (mt (mt (mt (mt (mt mh)))))))
theorem tq_754 : ((Jvm.Cond.code ({ cls := "TickPools$Script", name := "closeBrackets", desc := "()V" } : Jvm.MethodName) prog_8_method_5_code (2 : Nat) (Option.none : Option Jvm.ClassFile.FieldType)) : Cond) ∈ tables_1 := it4 (m81 (mt (mt (mt (mt (mt (mt (mt mh))))))))
theorem tq_755 : (.methodLink "TickPools" 101 yX5_start : Cond) ∈ tables_1 := it4 (m81 (mt (mt (mt (mt (mt (mt (mt (mt mh)))))))))
theorem tq_756 : (.instanceMethod yX5_start : Cond) ∈ tables_1 := it4 (m81 (m9 mh))
theorem tq_757 : (.selects "TickPools$Runner" yX5_start yX5_start : Cond) ∈ tables_1 := it4 (m81 (m9 (mt mh)))
theorem tq_758 : ((Jvm.Cond.code ({ cls := "TickPools$Runner", name := "start", desc := "(I)V" } : Jvm.MethodName) prog_7_method_2_code (3 : Nat) (Option.none : Option Jvm.ClassFile.FieldType)) : Cond) ∈ tables_1 := it4 (m81 (m9 (mt (mt mh))))
theorem tq_759 : (.methodLink "TickPools" 104 yX5_goesOn : Cond) ∈ tables_1 := it4 (m81 (m9 (mt (mt (mt mh)))))
theorem tq_760 : (.instanceMethod yX5_goesOn : Cond) ∈ tables_1 := it4 (m81 (m9 (mt (mt (mt (mt mh))))))
theorem tq_761 : (.selects "TickPools$Runner" yX5_goesOn yX5_goesOn : Cond) ∈ tables_1 := it4 (m81 (m9 (mt (mt (mt (mt (mt mh)))))))
theorem tq_762 : ((Jvm.Cond.code ({ cls := "TickPools$Runner", name := "goesOn", desc := "()Z" } : Jvm.MethodName) prog_7_method_3_code (1 : Nat) (Option.some Jvm.ClassFile.FieldType.boolean)) : Cond) ∈ tables_1 := it4 (m81 (m9 (mt (mt (mt (mt (mt (mt mh))))))))
theorem tq_763 : (.methodLink "TickPools" 107 yX5_turn : Cond) ∈ tables_1 := it4 (m81 (m9 (mt (mt (mt (mt (mt (mt (mt mh)))))))))
theorem tq_764 : (.instanceMethod yX5_turn : Cond) ∈ tables_1 := it4 (m81 (m9 (mt (mt (mt (mt (mt (mt (mt (mt mh))))))))))
theorem tq_765 : (.selects "TickPools$Runner" yX5_turn yX5_turn : Cond) ∈ tables_1 := it4 (m81 (m9 (m9 mh)))
theorem tq_766 : ((Jvm.Cond.code ({ cls := "TickPools$Runner", name := "turn", desc := "()V" } : Jvm.MethodName) prog_7_method_4_code (4 : Nat) (Option.none : Option Jvm.ClassFile.FieldType)) : Cond) ∈ tables_1 := it4 (m81 (m9 (m9 (mt mh))))
theorem tq_767 : (.methodLink "TickPools$Runner" 62 yX6_stepAt : Cond) ∈ tables_1 := it4 (m81 (m9 (m9 (mt (mt mh)))))
theorem tq_768 : (.methodLink "TickPools$Runner" 71 yX5_closeBracket : Cond) ∈ tables_1 := it4 (m81 (m9 (m9 (mt (mt (mt mh))))))
theorem tq_769 : (.privateMethod yX5_closeBracket : Cond) ∈ tables_1 := it4 (m81 (m9 (m9 (mt (mt (mt (mt mh)))))))
theorem tq_770 : (.instanceMethod yX5_closeBracket : Cond) ∈ tables_1 := it4 (m81 (m9 (m9 (mt (mt (mt (mt (mt mh))))))))
theorem tq_771 : ((Jvm.Cond.code ({ cls := "TickPools$Runner", name := "closeBracket", desc := "(LTickPools$Step;)V" } : Jvm.MethodName) prog_7_method_16_code (3 : Nat) (Option.none : Option Jvm.ClassFile.FieldType)) : Cond) ∈ tables_1 := it4 (m81 (m9 (m9 (mt (mt (mt (mt (mt (mt mh)))))))))
theorem tq_772 : (.methodLink "TickPools$Runner" 219 yX5_giveBack : Cond) ∈ tables_1 := it4 (m81 (m9 (m9 (mt (mt (mt (mt (mt (mt (mt mh))))))))))
theorem tq_773 : (.privateMethod yX5_giveBack : Cond) ∈ tables_1 := it4 (m81 (m9 (m9 (mt (mt (mt (mt (mt (mt (mt (mt mh)))))))))))
theorem tq_774 : (.instanceMethod yX5_giveBack : Cond) ∈ tables_1 := it4 (m81 (m81 mh))
theorem tq_775 : ((Jvm.Cond.code ({ cls := "TickPools$Runner", name := "giveBack", desc := "(LTickPools$Step;I)V" } : Jvm.MethodName) prog_7_method_17_code (5 : Nat) (Option.none : Option Jvm.ClassFile.FieldType)) : Cond) ∈ tables_1 := it4 (m81 (m81 (mt mh)))
theorem tq_776 : (.methodLink "TickPools$Runner" 136 yX2_poolAt : Cond) ∈ tables_1 := it4 (m81 (m81 (mt (mt mh))))
theorem tq_777 : (.instanceMethod yX2_poolAt : Cond) ∈ tables_1 := it4 (m81 (m81 (mt (mt (mt mh)))))
theorem tq_778 : (.selects "TickPools$Market" yX2_poolAt yX2_poolAt : Cond) ∈ tables_1 := it4 (m81 (m81 (mt (mt (mt (mt mh))))))
theorem tq_779 : ((Jvm.Cond.code ({ cls := "TickPools$Market", name := "poolAt", desc := "(I)LTickPools$Pool;" } : Jvm.MethodName) prog_4_method_6_code (2 : Nat) (Option.some (Jvm.ClassFile.FieldType.object "TickPools$Pool"))) : Cond) ∈ tables_1 := it4 (m81 (m81 (mt (mt (mt (mt (mt mh)))))))
theorem tq_780 : (.methodLink "TickPools$Runner" 212 yX5_setLocked : Cond) ∈ tables_1 := it4 (m81 (m81 (mt (mt (mt (mt (mt (mt mh))))))))
theorem tq_781 : (.privateMethod yX5_setLocked : Cond) ∈ tables_1 := it4 (m81 (m81 (mt (mt (mt (mt (mt (mt (mt mh)))))))))
theorem tq_782 : (.instanceMethod yX5_setLocked : Cond) ∈ tables_1 := it4 (m81 (m81 (mt (mt (mt (mt (mt (mt (mt (mt mh))))))))))
theorem tq_783 : ((Jvm.Cond.code ({ cls := "TickPools$Runner", name := "setLocked", desc := "(IZ)V" } : Jvm.MethodName) prog_7_method_7_code (3 : Nat) (Option.none : Option Jvm.ClassFile.FieldType)) : Cond) ∈ tables_1 := it4 (m81 (m81 (m9 mh)))
theorem tq_784 : (.constantLong "TickPools$Runner" 225 1000 : Cond) ∈ tables_1 := it4 (m81 (m81 (m9 (mt mh))))
theorem tq_785 : (.methodLink "TickPools$Runner" 227 yX0_upwards : Cond) ∈ tables_1 := it4 (m81 (m81 (m9 (mt (mt mh)))))
theorem tq_786 : (.static yX0_upwards : Cond) ∈ tables_1 := it4 (m81 (m81 (m9 (mt (mt (mt mh))))))
theorem tq_787 : ((Jvm.Cond.code ({ cls := "TickPools$Curve", name := "upwards", desc := "(JJ)J" } : Jvm.MethodName) prog_2_method_6_code (4 : Nat) (Option.some Jvm.ClassFile.FieldType.long)) : Cond) ∈ tables_1 := it4 (m81 (m81 (m9 (mt (mt (mt (mt mh)))))))
theorem tq_788 : (.methodLink "TickPools$Runner" 143 yX4_thingOn : Cond) ∈ tables_1 := it4 (m81 (m81 (m9 (mt (mt (mt (mt (mt mh))))))))
theorem tq_789 : (.instanceMethod yX4_thingOn : Cond) ∈ tables_1 := it4 (m81 (m81 (m9 (mt (mt (mt (mt (mt (mt mh)))))))))
theorem tq_790 : (.selects "TickPools$Pool" yX4_thingOn yX4_thingOn : Cond) ∈ tables_1 := it4 (m81 (m81 (m9 (mt (mt (mt (mt (mt (mt (mt mh))))))))))
theorem tq_791 : ((Jvm.Cond.code ({ cls := "TickPools$Pool", name := "thingOn", desc := "(I)I" } : Jvm.MethodName) prog_6_method_4_code (2 : Nat) (Option.some Jvm.ClassFile.FieldType.int)) : Cond) ∈ tables_1 := it4 (m81 (m81 (m9 (mt (mt (mt (mt (mt (mt (mt (mt mh)))))))))))
theorem tq_792 : (.methodLink "TickPools$Runner" 120 yX2_purseOf : Cond) ∈ tables_1 := it4 (m81 (m81 (m9 (m9 mh))))
theorem tq_793 : (.methodLink "TickPools$Runner" 75 yX5_fail : Cond) ∈ tables_1 := it4 (m81 (m81 (m9 (m9 (mt mh)))))
theorem tq_794 : (.privateMethod yX5_fail : Cond) ∈ tables_1 := it4 (m81 (m81 (m9 (m9 (mt (mt mh))))))
theorem tq_795 : (.instanceMethod yX5_fail : Cond) ∈ tables_1 := it4 (m81 (m81 (m9 (m9 (mt (mt (mt mh)))))))
theorem tq_796 : ((Jvm.Cond.code ({ cls := "TickPools$Runner", name := "fail", desc := "(LTickPools$Step;I)V" } : Jvm.MethodName) prog_7_method_5_code (3 : Nat) (Option.none : Option Jvm.ClassFile.FieldType)) : Cond) ∈ tables_1 := it4 (m81 (m81 (m9 (m9 (mt (mt (mt (mt mh))))))))
theorem tq_797 : (.methodLink "TickPools$Runner" 208 yX2_payOut : Cond) ∈ tables_1 := it4 (m81 (m81 (m9 (m9 (mt (mt (mt (mt (mt mh)))))))))
theorem tq_798 : (.instanceMethod yX2_payOut : Cond) ∈ tables_1 := it4 (m81 (m81 (m9 (m9 (mt (mt (mt (mt (mt (mt mh))))))))))
theorem tq_799 : (.selects "TickPools$Market" yX2_payOut yX2_payOut : Cond) ∈ tables_1 := it4 (m81 (m81 (m9 (m9 (mt (mt (mt (mt (mt (mt (mt mh)))))))))))
theorem tq_800 : ((Jvm.Cond.code ({ cls := "TickPools$Market", name := "payOut", desc := "(LTickPools$Pool;III)V" } : Jvm.MethodName) prog_4_method_11_code (5 : Nat) (Option.none : Option Jvm.ClassFile.FieldType)) : Cond) ∈ tables_1 := it4 (m81 (m81 (m9 (m9 (mt (mt (mt (mt (mt (mt (mt (mt mh))))))))))))
theorem tq_801 : (.methodLinkNest "TickPools$Market" 61 yX11_isSide "TickPools" : Cond) ∈ tables_1 := it4 (m81 (m81 (m81 mh)))
theorem tq_802 : (.static yX11_isSide : Cond) ∈ tables_1 := it4 (m81 (m81 (m81 (mt mh))))
theorem tq_803 : ((Jvm.Cond.code ({ cls := "TickPools", name := "isSide", desc := "(I)Z" } : Jvm.MethodName) prog_1_method_33_code (1 : Nat) (Option.some Jvm.ClassFile.FieldType.boolean)) : Cond) ∈ tables_1 := it4 (m81 (m81 (m81 (mt (mt mh)))))
theorem tq_804 : (.methodLink "TickPools$Market" 68 yX4_thingOn : Cond) ∈ tables_1 := it4 (m81 (m81 (m81 (mt (mt (mt mh))))))
theorem tq_805 : (.methodLink "TickPools$Market" 72 yX2_putIntoPurse : Cond) ∈ tables_1 := it4 (m81 (m81 (m81 (mt (mt (mt (mt mh)))))))
theorem tq_806 : (.methodLink "TickPools$Runner" 233 yX2_share : Cond) ∈ tables_1 := it4 (m81 (m81 (m81 (mt (mt (mt (mt (mt mh))))))))
theorem tq_807 : (.instanceMethod yX2_share : Cond) ∈ tables_1 := it4 (m81 (m81 (m81 (mt (mt (mt (mt (mt (mt mh)))))))))
theorem tq_808 : (.selects "TickPools$Market" yX2_share yX2_share : Cond) ∈ tables_1 := it4 (m81 (m81 (m81 (mt (mt (mt (mt (mt (mt (mt mh))))))))))
theorem tq_809 : ((Jvm.Cond.code ({ cls := "TickPools$Market", name := "share", desc := "(IIJ)V" } : Jvm.MethodName) prog_4_method_23_code (14 : Nat) (Option.none : Option Jvm.ClassFile.FieldType)) : Cond) ∈ tables_1 := it4 (m81 (m81 (m81 (mt (mt (mt (mt (mt (mt (mt (mt mh)))))))))))
theorem tq_810 : (.methodLink "TickPools$Market" 102 yX2_poolAt : Cond) ∈ tables_1 := it4 (m81 (m81 (m81 (m9 mh))))
theorem tq_811 : (.methodLink "TickPools$Market" 182 yX2_liquidityAt : Cond) ∈ tables_1 := it4 (m81 (m81 (m81 (m9 (mt mh)))))
theorem tq_812 : (.instanceMethod yX2_liquidityAt : Cond) ∈ tables_1 := it4 (m81 (m81 (m81 (m9 (mt (mt mh))))))
theorem tq_813 : (.selects "TickPools$Market" yX2_liquidityAt yX2_liquidityAt : Cond) ∈ tables_1 := it4 (m81 (m81 (m81 (m9 (mt (mt (mt mh)))))))
theorem tq_814 : ((Jvm.Cond.code ({ cls := "TickPools$Market", name := "liquidityAt", desc := "(II)J" } : Jvm.MethodName) prog_4_method_13_code (7 : Nat) (Option.some Jvm.ClassFile.FieldType.long)) : Cond) ∈ tables_1 := it4 (m81 (m81 (m81 (m9 (mt (mt (mt (mt mh))))))))
theorem tq_815 : (.constantLong "TickPools$Market" 189 100 : Cond) ∈ tables_1 := it4 (m81 (m81 (m81 (m9 (mt (mt (mt (mt (mt mh)))))))))
theorem tq_816 : (.constantLong "TickPools$Market" 191 1048576 : Cond) ∈ tables_1 := it4 (m81 (m81 (m81 (m9 (mt (mt (mt (mt (mt (mt mh))))))))))
theorem tq_817 : (.methodLink "TickPools$Market" 193 yX7_reaches : Cond) ∈ tables_1 := it4 (m81 (m81 (m81 (m9 (mt (mt (mt (mt (mt (mt (mt mh)))))))))))
theorem tq_818 : (.instanceMethod yX7_reaches : Cond) ∈ tables_1 := it4 (m81 (m81 (m81 (m9 (mt (mt (mt (mt (mt (mt (mt (mt mh))))))))))))
theorem tq_819 : (.selects "TickPools$Stake" yX7_reaches yX7_reaches : Cond) ∈ tables_1 := it4 (m81 (m81 (m81 (m9 (m9 mh)))))
theorem tq_820 : ((Jvm.Cond.code ({ cls := "TickPools$Stake", name := "reaches", desc := "(I)Z" } : Jvm.MethodName) prog_9_method_5_code (2 : Nat) (Option.some Jvm.ClassFile.FieldType.boolean)) : Cond) ∈ tables_1 := it4 (m81 (m81 (m81 (m9 (m9 (mt mh))))))
theorem tq_821 : (.methodLink "TickPools$Runner" 82 yX5_doIn : Cond) ∈ tables_1 := it4 (m81 (m81 (m81 (m9 (m9 (mt (mt mh)))))))
theorem tq_822 : (.privateMethod yX5_doIn : Cond) ∈ tables_1 := it4 (m81 (m81 (m81 (m9 (m9 (mt (mt (mt mh))))))))
theorem tq_823 : (.instanceMethod yX5_doIn : Cond) ∈ tables_1 := it4 (m81 (m81 (m81 (m9 (m9 (mt (mt (mt (mt mh)))))))))
theorem tq_824 : ((Jvm.Cond.code ({ cls := "TickPools$Runner", name := "doIn", desc := "(LTickPools$Step;)Z" } : Jvm.MethodName) prog_7_method_9_code (6 : Nat) (Option.some Jvm.ClassFile.FieldType.boolean)) : Cond) ∈ tables_1 := it4 (m81 (m81 (m81 (m9 (m9 (mt (mt (mt (mt (mt mh))))))))))
theorem tq_825 : (.methodLink "TickPools$Runner" 92 yX5_isLocked : Cond) ∈ tables_1 := it4 (m81 (m81 (m81 (m9 (m9 (mt (mt (mt (mt (mt (mt mh)))))))))))
theorem tq_826 : (.privateMethod yX5_isLocked : Cond) ∈ tables_1 := it4 (m81 (m81 (m81 (m9 (m9 (mt (mt (mt (mt (mt (mt (mt mh))))))))))))
theorem tq_827 : (.instanceMethod yX5_isLocked : Cond) ∈ tables_1 := it4 (m81 (m81 (m81 (m9 (m9 (mt (mt (mt (mt (mt (mt (mt (mt mh)))))))))))))
theorem tq_828 : ((Jvm.Cond.code ({ cls := "TickPools$Runner", name := "isLocked", desc := "(I)Z" } : Jvm.MethodName) prog_7_method_6_code (2 : Nat) (Option.some Jvm.ClassFile.FieldType.boolean)) : Cond) ∈ tables_1 := it4 (m81 (m81 (m81 (m81 mh))))
theorem tq_829 : (.methodLink "TickPools$Runner" 149 yX5_muchOf : Cond) ∈ tables_1 := it4 (m81 (m81 (m81 (m81 (mt mh)))))
theorem tq_830 : (.privateMethod yX5_muchOf : Cond) ∈ tables_1 := it4 (m81 (m81 (m81 (m81 (mt (mt mh))))))
theorem tq_831 : (.instanceMethod yX5_muchOf : Cond) ∈ tables_1 := it4 (m81 (m81 (m81 (m81 (mt (mt (mt mh)))))))
theorem tq_832 : ((Jvm.Cond.code ({ cls := "TickPools$Runner", name := "muchOf", desc := "(LTickPools$Step;I)J" } : Jvm.MethodName) prog_7_method_8_code (3 : Nat) (Option.some Jvm.ClassFile.FieldType.long)) : Cond) ∈ tables_1 := it4 (m81 (m81 (m81 (m81 (mt (mt (mt (mt mh))))))))
theorem tq_833 : (.methodLinkNest "TickPools$Runner" 153 yX11_lastTick "TickPools" : Cond) ∈ tables_1 := it4 (m81 (m81 (m81 (m81 (mt (mt (mt (mt (mt mh)))))))))
theorem tq_834 : (.static yX11_lastTick : Cond) ∈ tables_1 := it4 (m81 (m81 (m81 (m81 (mt (mt (mt (mt (mt (mt mh))))))))))
theorem tq_835 : ((Jvm.Cond.code ({ cls := "TickPools", name := "lastTick", desc := "(I)I" } : Jvm.MethodName) prog_1_method_35_code (1 : Nat) (Option.some Jvm.ClassFile.FieldType.int)) : Cond) ∈ tables_1 := it4 (m81 (m81 (m81 (m81 (mt (mt (mt (mt (mt (mt (mt mh)))))))))))
theorem tq_836 : (.methodLink "TickPools$Runner" 156 yX10_pour : Cond) ∈ tables_1 := it4 (m81 (m81 (m81 (m81 (mt (mt (mt (mt (mt (mt (mt (mt mh))))))))))))
theorem tq_837 : (.instanceMethod yX10_pour : Cond) ∈ tables_1 := it4 (m81 (m81 (m81 (m81 (m9 mh)))))
theorem tq_838 : (.selects "TickPools$Trade" yX10_pour yX10_pour : Cond) ∈ tables_1 := it4 (m81 (m81 (m81 (m81 (m9 (mt mh))))))
theorem tq_839 : ((Jvm.Cond.code ({ cls := "TickPools$Trade", name := "pour", desc := "(LTickPools$Market;IIIJIZ)V" } : Jvm.MethodName) prog_12_method_2_code (10 : Nat) (Option.none : Option Jvm.ClassFile.FieldType)) : Cond) ∈ tables_1 := it4 (m81 (m81 (m81 (m81 (m9 (mt (mt mh)))))))
theorem tq_840 : (.methodLink "TickPools$Trade" 9 yX10_start : Cond) ∈ tables_1 := it4 (m81 (m81 (m81 (m81 (m9 (mt (mt (mt mh))))))))
theorem tq_841 : (.privateMethod yX10_start : Cond) ∈ tables_1 := it4 (m81 (m81 (m81 (m81 (m9 (mt (mt (mt (mt mh)))))))))
theorem tq_842 : (.instanceMethod yX10_start : Cond) ∈ tables_1 := it4 (m81 (m81 (m81 (m81 (m9 (mt (mt (mt (mt (mt mh))))))))))
theorem tq_843 : ((Jvm.Cond.code ({ cls := "TickPools$Trade", name := "start", desc := "(LTickPools$Market;IIJZ)Z" } : Jvm.MethodName) prog_12_method_4_code (7 : Nat) (Option.some Jvm.ClassFile.FieldType.boolean)) : Cond) ∈ tables_1 := it4 (m81 (m81 (m81 (m81 (m9 (mt (mt (mt (mt (mt (mt mh)))))))))))
theorem tq_844 : (.methodLink "TickPools$Trade" 63 yX2_poolAt : Cond) ∈ tables_1 := it4 (m81 (m81 (m81 (m81 (m9 (mt (mt (mt (mt (mt (mt (mt mh))))))))))))
theorem tq_845 : (.methodLinkNest "TickPools$Trade" 83 yX11_isSide "TickPools" : Cond) ∈ tables_1 := it4 (m81 (m81 (m81 (m81 (m9 (mt (mt (mt (mt (mt (mt (mt (mt mh)))))))))))))
theorem tq_846 : (.methodLink "TickPools$Trade" 97 yX4_mark : Cond) ∈ tables_1 := it4 (m81 (m81 (m81 (m81 (m9 (m9 mh))))))
theorem tq_847 : (.instanceMethod yX4_mark : Cond) ∈ tables_1 := it4 (m81 (m81 (m81 (m81 (m9 (m9 (mt mh)))))))
theorem tq_848 : (.selects "TickPools$Pool" yX4_mark yX4_mark : Cond) ∈ tables_1 := it4 (m81 (m81 (m81 (m81 (m9 (m9 (mt (mt mh))))))))
theorem tq_849 : ((Jvm.Cond.code ({ cls := "TickPools$Pool", name := "mark", desc := "(I)V" } : Jvm.MethodName) prog_6_method_8_code (4 : Nat) (Option.none : Option Jvm.ClassFile.FieldType)) : Cond) ∈ tables_1 := it4 (m81 (m81 (m81 (m81 (m9 (m9 (mt (mt (mt mh)))))))))
theorem tq_850 : (.methodLink "TickPools$Pool" 69 yX4_sumAt : Cond) ∈ tables_1 := it4 (m81 (m81 (m81 (m81 (m9 (m9 (mt (mt (mt (mt mh))))))))))
theorem tq_851 : (.instanceMethod yX4_sumAt : Cond) ∈ tables_1 := it4 (m81 (m81 (m81 (m81 (m9 (m9 (mt (mt (mt (mt (mt mh)))))))))))
theorem tq_852 : (.selects "TickPools$Pool" yX4_sumAt yX4_sumAt : Cond) ∈ tables_1 := it4 (m81 (m81 (m81 (m81 (m9 (m9 (mt (mt (mt (mt (mt (mt mh))))))))))))
theorem tq_853 : ((Jvm.Cond.code ({ cls := "TickPools$Pool", name := "sumAt", desc := "(I)I" } : Jvm.MethodName) prog_6_method_9_code (5 : Nat) (Option.some Jvm.ClassFile.FieldType.int)) : Cond) ∈ tables_1 := it4 (m81 (m81 (m81 (m81 (m9 (m9 (mt (mt (mt (mt (mt (mt (mt mh)))))))))))))
theorem tq_854 : (.methodLink "TickPools$Trade" 30 yX10_pourStep : Cond) ∈ tables_1 := it4 (m81 (m81 (m81 (m81 (m9 (m9 (mt (mt (mt (mt (mt (mt (mt (mt mh))))))))))))))
theorem tq_855 : (.privateMethod yX10_pourStep : Cond) ∈ tables_1 := it4 (m81 (m81 (m81 (m81 (m81 mh)))))
theorem tq_856 : (.instanceMethod yX10_pourStep : Cond) ∈ tables_1 := it4 (m81 (m81 (m81 (m81 (m81 (mt mh))))))
theorem tq_857 : ((Jvm.Cond.code ({ cls := "TickPools$Trade", name := "pourStep", desc := "(I)V" } : Jvm.MethodName) prog_12_method_5_code (17 : Nat) (Option.none : Option Jvm.ClassFile.FieldType)) : Cond) ∈ tables_1 := it4 (m81 (m81 (m81 (m81 (m81 (mt (mt mh)))))))
theorem tq_858 : (.methodLink "TickPools$Trade" 100 yX10_aimBefore : Cond) ∈ tables_1 := it4 (m81 (m81 (m81 (m81 (m81 (mt (mt (mt mh))))))))
theorem tq_859 : (.privateMethod yX10_aimBefore : Cond) ∈ tables_1 := it4 (m81 (m81 (m81 (m81 (m81 (mt (mt (mt (mt mh)))))))))
theorem tq_860 : (.instanceMethod yX10_aimBefore : Cond) ∈ tables_1 := it4 (m81 (m81 (m81 (m81 (m81 (mt (mt (mt (mt (mt mh))))))))))
theorem tq_861 : ((Jvm.Cond.code ({ cls := "TickPools$Trade", name := "aimBefore", desc := "(I)I" } : Jvm.MethodName) prog_12_method_7_code (4 : Nat) (Option.some Jvm.ClassFile.FieldType.int)) : Cond) ∈ tables_1 := it4 (m81 (m81 (m81 (m81 (m81 (mt (mt (mt (mt (mt (mt mh)))))))))))
theorem tq_862 : (.methodLink "TickPools$Trade" 140 yX2_nextEdge : Cond) ∈ tables_1 := it4 (m81 (m81 (m81 (m81 (m81 (mt (mt (mt (mt (mt (mt (mt mh))))))))))))
theorem tq_863 : (.instanceMethod yX2_nextEdge : Cond) ∈ tables_1 := it4 (m81 (m81 (m81 (m81 (m81 (mt (mt (mt (mt (mt (mt (mt (mt mh)))))))))))))
theorem tq_864 : (.selects "TickPools$Market" yX2_nextEdge yX2_nextEdge : Cond) ∈ tables_1 := it4 (m81 (m81 (m81 (m81 (m81 (m9 mh))))))
theorem tq_865 : ((Jvm.Cond.code ({ cls := "TickPools$Market", name := "nextEdge", desc := "(III)I" } : Jvm.MethodName) prog_4_method_14_code (7 : Nat) (Option.some Jvm.ClassFile.FieldType.int)) : Cond) ∈ tables_1 := it4 (m81 (m81 (m81 (m81 (m81 (m9 (mt mh)))))))
theorem tq_866 : (.methodLink "TickPools$Market" 98 yX2_nearer : Cond) ∈ tables_1 := it4 (m81 (m81 (m81 (m81 (m81 (m9 (mt (mt mh))))))))
theorem tq_867 : (.static yX2_nearer : Cond) ∈ tables_1 := it4 (m81 (m81 (m81 (m81 (m81 (m9 (mt (mt (mt mh)))))))))
theorem tq_868 : ((Jvm.Cond.code ({ cls := "TickPools$Market", name := "nearer", desc := "(IIII)I" } : Jvm.MethodName) prog_4_method_15_code (4 : Nat) (Option.some Jvm.ClassFile.FieldType.int)) : Cond) ∈ tables_1 := it4 (m81 (m81 (m81 (m81 (m81 (m9 (mt (mt (mt (mt mh))))))))))
theorem tq_869 : (.methodLink "TickPools$Trade" 103 yX0_rootAt : Cond) ∈ tables_1 := it4 (m81 (m81 (m81 (m81 (m81 (m9 (mt (mt (mt (mt (mt mh)))))))))))
theorem tq_870 : (.methodLink "TickPools$Trade" 111 yX2_liquidityAt : Cond) ∈ tables_1 := it4 (m81 (m81 (m81 (m81 (m81 (m9 (mt (mt (mt (mt (mt (mt mh))))))))))))
theorem tq_871 : (.methodLink "TickPools$Trade" 115 yX0_between : Cond) ∈ tables_1 := it4 (m81 (m81 (m81 (m81 (m81 (m9 (mt (mt (mt (mt (mt (mt (mt mh)))))))))))))
theorem tq_872 : (.static yX0_between : Cond) ∈ tables_1 := it4 (m81 (m81 (m81 (m81 (m81 (m9 (mt (mt (mt (mt (mt (mt (mt (mt mh))))))))))))))
theorem tq_873 : ((Jvm.Cond.code ({ cls := "TickPools$Curve", name := "between", desc := "(ZJJJZ)J" } : Jvm.MethodName) prog_2_method_5_code (18 : Nat) (Option.some Jvm.ClassFile.FieldType.long)) : Cond) ∈ tables_1 := it4 (m81 (m81 (m81 (m81 (m81 (m9 (m9 mh)))))))
theorem tq_874 : (.constantLong "TickPools$Curve" 23 100000 : Cond) ∈ tables_1 := it4 (m81 (m81 (m81 (m81 (m81 (m9 (m9 (mt mh))))))))
theorem tq_875 : (.constantLong "TickPools$Trade" 119 1000 : Cond) ∈ tables_1 := it4 (m81 (m81 (m81 (m81 (m81 (m9 (m9 (mt (mt mh)))))))))
theorem tq_876 : (.methodLink "TickPools$Trade" 121 yX0_upwards : Cond) ∈ tables_1 := it4 (m81 (m81 (m81 (m81 (m81 (m9 (m9 (mt (mt (mt mh))))))))))
theorem tq_877 : (.methodLink "TickPools$Trade" 125 yX0_rootBehindIn : Cond) ∈ tables_1 := it4 (m81 (m81 (m81 (m81 (m81 (m9 (m9 (mt (mt (mt (mt mh)))))))))))
theorem tq_878 : (.static yX0_rootBehindIn : Cond) ∈ tables_1 := it4 (m81 (m81 (m81 (m81 (m81 (m9 (m9 (mt (mt (mt (mt (mt mh))))))))))))
theorem tq_879 : ((Jvm.Cond.code ({ cls := "TickPools$Curve", name := "rootBehindIn", desc := "(IJJJ)I" } : Jvm.MethodName) prog_2_method_7_code (9 : Nat) (Option.some Jvm.ClassFile.FieldType.int)) : Cond) ∈ tables_1 := it4 (m81 (m81 (m81 (m81 (m81 (m9 (m9 (mt (mt (mt (mt (mt (mt mh)))))))))))))
theorem tq_880 : (.methodLink "TickPools$Curve" 25 yX0_upwards : Cond) ∈ tables_1 := it4 (m81 (m81 (m81 (m81 (m81 (m9 (m9 (mt (mt (mt (mt (mt (mt (mt mh))))))))))))))
theorem tq_881 : (.methodLink "TickPools$Trade" 129 yX10_takeIn : Cond) ∈ tables_1 := it4 (m81 (m81 (m81 (m81 (m81 (m9 (m9 (mt (mt (mt (mt (mt (mt (mt (mt mh)))))))))))))))
theorem tq_882 : (.privateMethod yX10_takeIn : Cond) ∈ tables_1 := it4 (m81 (m81 (m81 (m81 (m81 (m81 mh))))))
theorem tq_883 : (.instanceMethod yX10_takeIn : Cond) ∈ tables_1 := it4 (m81 (m81 (m81 (m81 (m81 (m81 (mt mh)))))))
theorem tq_884 : ((Jvm.Cond.code ({ cls := "TickPools$Trade", name := "takeIn", desc := "(JJ)V" } : Jvm.MethodName) prog_12_method_8_code (5 : Nat) (Option.none : Option Jvm.ClassFile.FieldType)) : Cond) ∈ tables_1 := it4 (m81 (m81 (m81 (m81 (m81 (m81 (mt (mt mh))))))))
theorem tq_885 : (.methodLink "TickPools$Trade" 144 yX2_share : Cond) ∈ tables_1 := it4 (m81 (m81 (m81 (m81 (m81 (m81 (mt (mt (mt mh)))))))))
theorem tq_886 : (.methodLink "TickPools$Trade" 133 yX10_arrive : Cond) ∈ tables_1 := it4 (m81 (m81 (m81 (m81 (m81 (m81 (mt (mt (mt (mt mh))))))))))
theorem tq_887 : (.privateMethod yX10_arrive : Cond) ∈ tables_1 := it4 (m81 (m81 (m81 (m81 (m81 (m81 (mt (mt (mt (mt (mt mh)))))))))))
theorem tq_888 : (.instanceMethod yX10_arrive : Cond) ∈ tables_1 := it4 (m81 (m81 (m81 (m81 (m81 (m81 (mt (mt (mt (mt (mt (mt mh))))))))))))
theorem tq_889 : ((Jvm.Cond.code ({ cls := "TickPools$Trade", name := "arrive", desc := "(IZZ)V" } : Jvm.MethodName) prog_12_method_9_code (4 : Nat) (Option.none : Option Jvm.ClassFile.FieldType)) : Cond) ∈ tables_1 := it4 (m81 (m81 (m81 (m81 (m81 (m81 (mt (mt (mt (mt (mt (mt (mt mh)))))))))))))
theorem tq_890 : (.methodLink "TickPools$Trade" 148 yX10_zoneShortOf : Cond) ∈ tables_1 := it4 (m81 (m81 (m81 (m81 (m81 (m81 (mt (mt (mt (mt (mt (mt (mt (mt mh))))))))))))))
theorem tq_891 : (.privateMethod yX10_zoneShortOf : Cond) ∈ tables_1 := it4 (m81 (m81 (m81 (m81 (m81 (m81 (m9 mh)))))))
theorem tq_892 : (.instanceMethod yX10_zoneShortOf : Cond) ∈ tables_1 := it4 (m81 (m81 (m81 (m81 (m81 (m81 (m9 (mt mh))))))))
theorem tq_893 : ((Jvm.Cond.code ({ cls := "TickPools$Trade", name := "zoneShortOf", desc := "(I)I" } : Jvm.MethodName) prog_12_method_10_code (3 : Nat) (Option.some Jvm.ClassFile.FieldType.int)) : Cond) ∈ tables_1 := it4 (m81 (m81 (m81 (m81 (m81 (m81 (m9 (mt (mt mh)))))))))
theorem tq_894 : (.methodLink "TickPools$Trade" 47 yX2_dropAt : Cond) ∈ tables_1 := it4 (m81 (m81 (m81 (m81 (m81 (m81 (m9 (mt (mt (mt mh))))))))))
theorem tq_895 : (.instanceMethod yX2_dropAt : Cond) ∈ tables_1 := it4 (m81 (m81 (m81 (m81 (m81 (m81 (m9 (mt (mt (mt (mt mh)))))))))))
theorem tq_896 : (.selects "TickPools$Market" yX2_dropAt yX2_dropAt : Cond) ∈ tables_1 := it4 (m81 (m81 (m81 (m81 (m81 (m81 (m9 (mt (mt (mt (mt (mt mh))))))))))))
theorem tq_897 : ((Jvm.Cond.code ({ cls := "TickPools$Market", name := "dropAt", desc := "(III)V" } : Jvm.MethodName) prog_4_method_22_code (7 : Nat) (Option.none : Option Jvm.ClassFile.FieldType)) : Cond) ∈ tables_1 := it4 (m81 (m81 (m81 (m81 (m81 (m81 (m9 (mt (mt (mt (mt (mt (mt mh)))))))))))))
theorem tq_898 : (.methodLink "TickPools$Market" 175 yX2_withdraw : Cond) ∈ tables_1 := it4 (m81 (m81 (m81 (m81 (m81 (m81 (m9 (mt (mt (mt (mt (mt (mt (mt mh))))))))))))))
theorem tq_899 : (.instanceMethod yX2_withdraw : Cond) ∈ tables_1 := it4 (m81 (m81 (m81 (m81 (m81 (m81 (m9 (mt (mt (mt (mt (mt (mt (mt (mt mh)))))))))))))))
theorem tq_900 : (.selects "TickPools$Market" yX2_withdraw yX2_withdraw : Cond) ∈ tables_1 := it4 (m81 (m81 (m81 (m81 (m81 (m81 (m9 (m9 mh))))))))
theorem tq_901 : ((Jvm.Cond.code ({ cls := "TickPools$Market", name := "withdraw", desc := "(II)V" } : Jvm.MethodName) prog_4_method_20_code (9 : Nat) (Option.none : Option Jvm.ClassFile.FieldType)) : Cond) ∈ tables_1 := it4 (m81 (m81 (m81 (m81 (m81 (m81 (m9 (m9 (mt mh)))))))))
theorem tq_902 : (.methodLink "TickPools$Market" 157 yX2_stakeAt : Cond) ∈ tables_1 := it4 (m81 (m81 (m81 (m81 (m81 (m81 (m9 (m9 (mt (mt mh))))))))))
theorem tq_903 : (.instanceMethod yX2_stakeAt : Cond) ∈ tables_1 := it4 (m81 (m81 (m81 (m81 (m81 (m81 (m9 (m9 (mt (mt (mt mh)))))))))))
theorem tq_904 : (.selects "TickPools$Market" yX2_stakeAt yX2_stakeAt : Cond) ∈ tables_1 := it4 (m81 (m81 (m81 (m81 (m81 (m81 (m9 (m9 (mt (mt (mt (mt mh))))))))))))
theorem tq_905 : ((Jvm.Cond.code ({ cls := "TickPools$Market", name := "stakeAt", desc := "(I)LTickPools$Stake;" } : Jvm.MethodName) prog_4_method_7_code (2 : Nat) (Option.some (Jvm.ClassFile.FieldType.object "TickPools$Stake"))) : Cond) ∈ tables_1 := it4 (m81 (m81 (m81 (m81 (m81 (m81 (m9 (m9 (mt (mt (mt (mt (mt mh)))))))))))))
theorem tq_906 : (.methodLink "TickPools$Market" 144 yX7_settle : Cond) ∈ tables_1 := it4 (m81 (m81 (m81 (m81 (m81 (m81 (m9 (m9 (mt (mt (mt (mt (mt (mt mh))))))))))))))
theorem tq_907 : (.instanceMethod yX7_settle : Cond) ∈ tables_1 := it4 (m81 (m81 (m81 (m81 (m81 (m81 (m9 (m9 (mt (mt (mt (mt (mt (mt (mt mh)))))))))))))))
theorem tq_908 : (.selects "TickPools$Stake" yX7_settle yX7_settle : Cond) ∈ tables_1 := it4 (m81 (m81 (m81 (m81 (m81 (m81 (m9 (m9 (mt (mt (mt (mt (mt (mt (mt (mt mh))))))))))))))))
theorem tq_909 : ((Jvm.Cond.code ({ cls := "TickPools$Stake", name := "settle", desc := "()V" } : Jvm.MethodName) prog_9_method_7_code (2 : Nat) (Option.none : Option Jvm.ClassFile.FieldType)) : Cond) ∈ tables_1 := it4 (m81 (m81 (m81 (m81 (m81 (m81 (m81 mh)))))))
theorem tq_910 : (.methodLink "TickPools$Stake" 41 yX7_owed : Cond) ∈ tables_1 := it4 (m81 (m81 (m81 (m81 (m81 (m81 (m81 (mt mh))))))))
theorem tq_911 : (.instanceMethod yX7_owed : Cond) ∈ tables_1 := it4 (m81 (m81 (m81 (m81 (m81 (m81 (m81 (mt (mt mh)))))))))
theorem tq_912 : (.selects "TickPools$Stake" yX7_owed yX7_owed : Cond) ∈ tables_1 := it4 (m81 (m81 (m81 (m81 (m81 (m81 (m81 (mt (mt (mt mh))))))))))
theorem tq_913 : ((Jvm.Cond.code ({ cls := "TickPools$Stake", name := "owed", desc := "(I)J" } : Jvm.MethodName) prog_9_method_6_code (2 : Nat) (Option.some Jvm.ClassFile.FieldType.long)) : Cond) ∈ tables_1 := it4 (m81 (m81 (m81 (m81 (m81 (m81 (m81 (mt (mt (mt (mt mh)))))))))))
theorem tq_914 : (.constantLong "TickPools$Stake" 39 1048576 : Cond) ∈ tables_1 := it4 (m81 (m81 (m81 (m81 (m81 (m81 (m81 (mt (mt (mt (mt (mt mh))))))))))))
theorem tq_915 : (.methodLink "TickPools$Market" 109 yX7_liesIn : Cond) ∈ tables_1 := it4 (m81 (m81 (m81 (m81 (m81 (m81 (m81 (mt (mt (mt (mt (mt (mt mh)))))))))))))
theorem tq_916 : (.instanceMethod yX7_liesIn : Cond) ∈ tables_1 := it4 (m81 (m81 (m81 (m81 (m81 (m81 (m81 (mt (mt (mt (mt (mt (mt (mt mh))))))))))))))
theorem tq_917 : (.selects "TickPools$Stake" yX7_liesIn yX7_liesIn : Cond) ∈ tables_1 := it4 (m81 (m81 (m81 (m81 (m81 (m81 (m81 (mt (mt (mt (mt (mt (mt (mt (mt mh)))))))))))))))
theorem tq_918 : ((Jvm.Cond.code ({ cls := "TickPools$Stake", name := "liesIn", desc := "(LTickPools$Pool;JIZ)J" } : Jvm.MethodName) prog_9_method_8_code (7 : Nat) (Option.some Jvm.ClassFile.FieldType.long)) : Cond) ∈ tables_1 := it4 (m81 (m81 (m81 (m81 (m81 (m81 (m81 (m9 mh))))))))
theorem tq_919 : (.methodLink "TickPools$Stake" 50 yX0_rootAt : Cond) ∈ tables_1 := it4 (m81 (m81 (m81 (m81 (m81 (m81 (m81 (m9 (mt mh)))))))))
theorem tq_920 : (.methodLink "TickPools$Stake" 59 yX0_between : Cond) ∈ tables_1 := it4 (m81 (m81 (m81 (m81 (m81 (m81 (m81 (m9 (mt (mt mh))))))))))
theorem tq_921 : (.methodLink "TickPools$Market" 147 yX2_payOut : Cond) ∈ tables_1 := it4 (m81 (m81 (m81 (m81 (m81 (m81 (m81 (m9 (mt (mt (mt mh)))))))))))
theorem tq_922 : (.methodLink "TickPools$Market" 168 yX2_remove : Cond) ∈ tables_1 := it4 (m81 (m81 (m81 (m81 (m81 (m81 (m81 (m9 (mt (mt (mt (mt mh))))))))))))
theorem tq_923 : (.privateMethod yX2_remove : Cond) ∈ tables_1 := it4 (m81 (m81 (m81 (m81 (m81 (m81 (m81 (m9 (mt (mt (mt (mt (mt mh)))))))))))))
theorem tq_924 : (.instanceMethod yX2_remove : Cond) ∈ tables_1 := it4 (m81 (m81 (m81 (m81 (m81 (m81 (m81 (m9 (mt (mt (mt (mt (mt (mt mh))))))))))))))
theorem tq_925 : ((Jvm.Cond.code ({ cls := "TickPools$Market", name := "remove", desc := "(I)V" } : Jvm.MethodName) prog_4_method_21_code (4 : Nat) (Option.none : Option Jvm.ClassFile.FieldType)) : Cond) ∈ tables_1 := it4 (m81 (m81 (m81 (m81 (m81 (m81 (m81 (m9 (mt (mt (mt (mt (mt (mt (mt mh)))))))))))))))
theorem tq_926 : (.methodLink "TickPools$Trade" 53 yX10_finish : Cond) ∈ tables_1 := it4 (m81 (m81 (m81 (m81 (m81 (m81 (m81 (m9 (mt (mt (mt (mt (mt (mt (mt (mt mh))))))))))))))))
theorem tq_927 : (.privateMethod yX10_finish : Cond) ∈ tables_1 := it4 (m81 (m81 (m81 (m81 (m81 (m81 (m81 (m9 (m9 mh)))))))))
theorem tq_928 : (.instanceMethod yX10_finish : Cond) ∈ tables_1 := it4 (m81 (m81 (m81 (m81 (m81 (m81 (m81 (m9 (m9 (mt mh))))))))))
theorem tq_929 : ((Jvm.Cond.code ({ cls := "TickPools$Trade", name := "finish", desc := "(I)V" } : Jvm.MethodName) prog_12_method_11_code (2 : Nat) (Option.none : Option Jvm.ClassFile.FieldType)) : Cond) ∈ tables_1 := it4 (m81 (m81 (m81 (m81 (m81 (m81 (m81 (m9 (m9 (mt (mt mh)))))))))))
theorem tq_930 : (.methodLink "TickPools$Trade" 156 yX4_thingOn : Cond) ∈ tables_1 := it4 (m81 (m81 (m81 (m81 (m81 (m81 (m81 (m9 (m9 (mt (mt (mt mh))))))))))))
theorem tq_931 : (.methodLink "TickPools$Trade" 159 yX2_putIntoPurse : Cond) ∈ tables_1 := it4 (m81 (m81 (m81 (m81 (m81 (m81 (m81 (m9 (m9 (mt (mt (mt (mt mh)))))))))))))
theorem tq_932 : (.methodLink "TickPools$Runner" 86 yX5_doOut : Cond) ∈ tables_1 := it4 (m81 (m81 (m81 (m81 (m81 (m81 (m81 (m9 (m9 (mt (mt (mt (mt (mt mh))))))))))))))
theorem tq_933 : (.privateMethod yX5_doOut : Cond) ∈ tables_1 := it4 (m81 (m81 (m81 (m81 (m81 (m81 (m81 (m9 (m9 (mt (mt (mt (mt (mt (mt mh)))))))))))))))
theorem tq_934 : (.instanceMethod yX5_doOut : Cond) ∈ tables_1 := it4 (m81 (m81 (m81 (m81 (m81 (m81 (m81 (m9 (m9 (mt (mt (mt (mt (mt (mt (mt mh))))))))))))))))
theorem tq_935 : ((Jvm.Cond.code ({ cls := "TickPools$Runner", name := "doOut", desc := "(LTickPools$Step;)Z" } : Jvm.MethodName) prog_7_method_10_code (6 : Nat) (Option.some Jvm.ClassFile.FieldType.boolean)) : Cond) ∈ tables_1 := it4 (m81 (m81 (m81 (m81 (m81 (m81 (m81 (m9 (m9 (mt (mt (mt (mt (mt (mt (mt (mt mh)))))))))))))))))
theorem tq_936 : (.methodLink "TickPools$Runner" 165 yX4_heldOn : Cond) ∈ tables_1 := it4 (m81 (m81 (m81 (m81 (m81 (m81 (m81 (m81 mh))))))))
theorem tq_937 : (.instanceMethod yX4_heldOn : Cond) ∈ tables_1 := it4 (m81 (m81 (m81 (m81 (m81 (m81 (m81 (m81 (mt mh)))))))))
theorem tq_938 : (.selects "TickPools$Pool" yX4_heldOn yX4_heldOn : Cond) ∈ tables_1 := it4 (m81 (m81 (m81 (m81 (m81 (m81 (m81 (m81 (mt (mt mh))))))))))
theorem tq_939 : ((Jvm.Cond.code ({ cls := "TickPools$Pool", name := "heldOn", desc := "(I)I" } : Jvm.MethodName) prog_6_method_5_code (2 : Nat) (Option.some Jvm.ClassFile.FieldType.int)) : Cond) ∈ tables_1 := it4 (m81 (m81 (m81 (m81 (m81 (m81 (m81 (m81 (mt (mt (mt mh)))))))))))
theorem tq_940 : (.methodLinkNest "TickPools$Pool" 65 yX11_isSide "TickPools" : Cond) ∈ tables_1 := it4 (m81 (m81 (m81 (m81 (m81 (m81 (m81 (m81 (mt (mt (mt (mt mh))))))))))))
theorem tq_941 : (.constantLong "TickPools$Runner" 168 9999999 : Cond) ∈ tables_1 := it4 (m81 (m81 (m81 (m81 (m81 (m81 (m81 (m81 (mt (mt (mt (mt (mt mh)))))))))))))
theorem tq_942 : (.methodLink "TickPools$Runner" 170 yX10_drain : Cond) ∈ tables_1 := it4 (m81 (m81 (m81 (m81 (m81 (m81 (m81 (m81 (mt (mt (mt (mt (mt (mt mh))))))))))))))
theorem tq_943 : (.instanceMethod yX10_drain : Cond) ∈ tables_1 := it4 (m81 (m81 (m81 (m81 (m81 (m81 (m81 (m81 (mt (mt (mt (mt (mt (mt (mt mh)))))))))))))))
theorem tq_944 : (.selects "TickPools$Trade" yX10_drain yX10_drain : Cond) ∈ tables_1 := it4 (m81 (m81 (m81 (m81 (m81 (m81 (m81 (m81 (mt (mt (mt (mt (mt (mt (mt (mt mh))))))))))))))))
theorem tq_945 : ((Jvm.Cond.code ({ cls := "TickPools$Trade", name := "drain", desc := "(LTickPools$Market;IIIJZ)V" } : Jvm.MethodName) prog_12_method_3_code (10 : Nat) (Option.none : Option Jvm.ClassFile.FieldType)) : Cond) ∈ tables_1 := it4 (m81 (m81 (m81 (m81 (m81 (m81 (m81 (m81 (m9 mh)))))))))
theorem tq_946 : (.methodLinkNest "TickPools$Trade" 56 yX11_lastTick "TickPools" : Cond) ∈ tables_1 := it4 (m81 (m81 (m81 (m81 (m81 (m81 (m81 (m81 (m9 (mt mh))))))))))
theorem tq_947 : (.methodLink "TickPools$Trade" 60 yX10_drainStep : Cond) ∈ tables_1 := it4 (m81 (m81 (m81 (m81 (m81 (m81 (m81 (m81 (m9 (mt (mt mh)))))))))))
theorem tq_948 : (.privateMethod yX10_drainStep : Cond) ∈ tables_1 := it4 (m81 (m81 (m81 (m81 (m81 (m81 (m81 (m81 (m9 (mt (mt (mt mh))))))))))))
theorem tq_949 : (.instanceMethod yX10_drainStep : Cond) ∈ tables_1 := it4 (m81 (m81 (m81 (m81 (m81 (m81 (m81 (m81 (m9 (mt (mt (mt (mt mh)))))))))))))
theorem tq_950 : ((Jvm.Cond.code ({ cls := "TickPools$Trade", name := "drainStep", desc := "(I)V" } : Jvm.MethodName) prog_12_method_6_code (14 : Nat) (Option.none : Option Jvm.ClassFile.FieldType)) : Cond) ∈ tables_1 := it4 (m81 (m81 (m81 (m81 (m81 (m81 (m81 (m81 (m9 (mt (mt (mt (mt (mt mh))))))))))))))
theorem tq_951 : (.methodLink "TickPools$Trade" 137 yX0_rootBehindOut : Cond) ∈ tables_1 := it4 (m81 (m81 (m81 (m81 (m81 (m81 (m81 (m81 (m9 (mt (mt (mt (mt (mt (mt mh)))))))))))))))
theorem tq_952 : (.static yX0_rootBehindOut : Cond) ∈ tables_1 := it4 (m81 (m81 (m81 (m81 (m81 (m81 (m81 (m81 (m9 (mt (mt (mt (mt (mt (mt (mt mh))))))))))))))))
theorem tq_953 : ((Jvm.Cond.code ({ cls := "TickPools$Curve", name := "rootBehindOut", desc := "(IJJJ)I" } : Jvm.MethodName) prog_2_method_8_code (9 : Nat) (Option.some Jvm.ClassFile.FieldType.int)) : Cond) ∈ tables_1 := it4 (m81 (m81 (m81 (m81 (m81 (m81 (m81 (m81 (m9 (mt (mt (mt (mt (mt (mt (mt (mt mh)))))))))))))))))
theorem tq_954 : (.methodLink "TickPools$Runner" 105 yX2_addStake : Cond) ∈ tables_1 := it4 (m81 (m81 (m81 (m81 (m81 (m81 (m81 (m81 (m9 (m9 mh))))))))))
theorem tq_955 : (.instanceMethod yX2_addStake : Cond) ∈ tables_1 := it4 (m81 (m81 (m81 (m81 (m81 (m81 (m81 (m81 (m9 (m9 (mt mh)))))))))))
theorem tq_956 : (.selects "TickPools$Market" yX2_addStake yX2_addStake : Cond) ∈ tables_1 := it4 (m81 (m81 (m81 (m81 (m81 (m81 (m81 (m81 (m9 (m9 (mt (mt mh))))))))))))
theorem tq_957 : ((Jvm.Cond.code ({ cls := "TickPools$Market", name := "addStake", desc := "(IIIIII)I" } : Jvm.MethodName) prog_4_method_18_code (15 : Nat) (Option.some Jvm.ClassFile.FieldType.int)) : Cond) ∈ tables_1 := it4 (m81 (m81 (m81 (m81 (m81 (m81 (m81 (m81 (m9 (m9 (mt (mt (mt mh)))))))))))))
theorem tq_958 : (.methodLink "TickPools$Market" 121 yX2_hasPerson : Cond) ∈ tables_1 := it4 (m81 (m81 (m81 (m81 (m81 (m81 (m81 (m81 (m9 (m9 (mt (mt (mt (mt mh))))))))))))))
theorem tq_959 : (.methodLink "TickPools$Market" 124 yX2_isRange : Cond) ∈ tables_1 := it4 (m81 (m81 (m81 (m81 (m81 (m81 (m81 (m81 (m9 (m9 (mt (mt (mt (mt (mt mh)))))))))))))))
theorem tq_960 : (.static yX2_isRange : Cond) ∈ tables_1 := it5 mh
theorem tq_961 : ((Jvm.Cond.code ({ cls := "TickPools$Market", name := "isRange", desc := "(LTickPools$Pool;II)Z" } : Jvm.MethodName) prog_4_method_19_code (3 : Nat) (Option.some Jvm.ClassFile.FieldType.boolean)) : Cond) ∈ tables_1 := it5 (mt mh)
theorem tq_962 : (.methodLinkNest "TickPools$Market" 154 yX11_isTick "TickPools" : Cond) ∈ tables_1 := it5 (mt (mt mh))
theorem tq_963 : (.static yX11_isTick : Cond) ∈ tables_1 := it5 (mt (mt (mt mh)))
theorem tq_964 : ((Jvm.Cond.code ({ cls := "TickPools", name := "isTick", desc := "(I)Z" } : Jvm.MethodName) prog_1_method_31_code (1 : Nat) (Option.some Jvm.ClassFile.FieldType.boolean)) : Cond) ∈ tables_1 := it5 (mt (mt (mt (mt mh))))
theorem tq_965 : (.constant "TickPools$Market" 128 99999 : Cond) ∈ tables_1 := it5 (mt (mt (mt (mt (mt mh)))))
theorem tq_966 : (.methodLink "TickPools$Market" 129 yX2_findStake : Cond) ∈ tables_1 := it5 (mt (mt (mt (mt (mt (mt mh))))))
theorem tq_967 : (.instanceMethod yX2_findStake : Cond) ∈ tables_1 := it5 (mt (mt (mt (mt (mt (mt (mt mh)))))))
theorem tq_968 : (.selects "TickPools$Market" yX2_findStake yX2_findStake : Cond) ∈ tables_1 := it5 (mt (mt (mt (mt (mt (mt (mt (mt mh))))))))
theorem tq_969 : ((Jvm.Cond.code ({ cls := "TickPools$Market", name := "findStake", desc := "(IIIII)I" } : Jvm.MethodName) prog_4_method_17_code (7 : Nat) (Option.some Jvm.ClassFile.FieldType.int)) : Cond) ∈ tables_1 := it5 (m9 mh)
theorem tq_970 : (.methodLink "TickPools$Market" 117 yX7_isOf : Cond) ∈ tables_1 := it5 (m9 (mt mh))
theorem tq_971 : (.instanceMethod yX7_isOf : Cond) ∈ tables_1 := it5 (m9 (mt (mt mh)))
theorem tq_972 : (.selects "TickPools$Stake" yX7_isOf yX7_isOf : Cond) ∈ tables_1 := it5 (m9 (mt (mt (mt mh))))
theorem tq_973 : ((Jvm.Cond.code ({ cls := "TickPools$Stake", name := "isOf", desc := "(IIIII)Z" } : Jvm.MethodName) prog_9_method_4_code (6 : Nat) (Option.some Jvm.ClassFile.FieldType.boolean)) : Cond) ∈ tables_1 := it5 (m9 (mt (mt (mt (mt mh)))))
theorem tq_974 : (.methodLink "TickPools$Market" 133 yX7_open : Cond) ∈ tables_1 := it5 (m9 (mt (mt (mt (mt (mt mh))))))
theorem tq_975 : (.constant "TickPools$Market" 137 999999 : Cond) ∈ tables_1 := it5 (m9 (mt (mt (mt (mt (mt (mt mh)))))))
theorem tq_976 : (.methodLink "TickPools$Market" 76 yX2_purseOf : Cond) ∈ tables_1 := it5 (m9 (mt (mt (mt (mt (mt (mt (mt mh))))))))
theorem tq_977 : (.methodLink "TickPools$Runner" 111 yX5_doDrop : Cond) ∈ tables_1 := it5 (m9 (mt (mt (mt (mt (mt (mt (mt (mt mh)))))))))
theorem tq_978 : (.privateMethod yX5_doDrop : Cond) ∈ tables_1 := it5 (m9 (m9 mh))
theorem tq_979 : (.instanceMethod yX5_doDrop : Cond) ∈ tables_1 := it5 (m9 (m9 (mt mh)))
theorem tq_980 : ((Jvm.Cond.code ({ cls := "TickPools$Runner", name := "doDrop", desc := "(LTickPools$Step;)Z" } : Jvm.MethodName) prog_7_method_11_code (4 : Nat) (Option.some Jvm.ClassFile.FieldType.boolean)) : Cond) ∈ tables_1 := it5 (m9 (m9 (mt (mt mh))))
theorem tq_981 : (.methodLink "TickPools$Runner" 180 yX2_findStake : Cond) ∈ tables_1 := it5 (m9 (m9 (mt (mt (mt mh)))))
theorem tq_982 : (.methodLink "TickPools$Runner" 184 yX2_stakeAt : Cond) ∈ tables_1 := it5 (m9 (m9 (mt (mt (mt (mt mh))))))
theorem tq_983 : (.methodLink "TickPools$Runner" 193 yX2_withdraw : Cond) ∈ tables_1 := it5 (m9 (m9 (mt (mt (mt (mt (mt mh)))))))
theorem tq_984 : (.methodLink "TickPools$Runner" 117 yX2_hasThing : Cond) ∈ tables_1 := it5 (m9 (m9 (mt (mt (mt (mt (mt (mt mh))))))))
theorem tq_985 : (.instanceMethod yX2_hasThing : Cond) ∈ tables_1 := it5 (m9 (m9 (mt (mt (mt (mt (mt (mt (mt mh)))))))))
theorem tq_986 : (.selects "TickPools$Market" yX2_hasThing yX2_hasThing : Cond) ∈ tables_1 := it5 (m9 (m9 (mt (mt (mt (mt (mt (mt (mt (mt mh))))))))))
theorem tq_987 : ((Jvm.Cond.code ({ cls := "TickPools$Market", name := "hasThing", desc := "(I)Z" } : Jvm.MethodName) prog_4_method_4_code (2 : Nat) (Option.some Jvm.ClassFile.FieldType.boolean)) : Cond) ∈ tables_1 := it5 (m81 mh)
theorem tq_988 : (.methodLink "TickPools$Runner" 124 yX5_doLend : Cond) ∈ tables_1 := it5 (m81 (mt mh))
theorem tq_989 : (.privateMethod yX5_doLend : Cond) ∈ tables_1 := it5 (m81 (mt (mt mh)))
theorem tq_990 : (.instanceMethod yX5_doLend : Cond) ∈ tables_1 := it5 (m81 (mt (mt (mt mh))))
theorem tq_991 : ((Jvm.Cond.code ({ cls := "TickPools$Runner", name := "doLend", desc := "(LTickPools$Step;)Z" } : Jvm.MethodName) prog_7_method_12_code (6 : Nat) (Option.some Jvm.ClassFile.FieldType.boolean)) : Cond) ∈ tables_1 := it5 (m81 (mt (mt (mt (mt mh)))))
theorem tq_992 : (.methodLink "TickPools$Runner" 200 yX2_liquidityAt : Cond) ∈ tables_1 := it5 (m81 (mt (mt (mt (mt (mt mh))))))
theorem tq_993 : (.methodLink "TickPools$Runner" 204 yX5_canOpen : Cond) ∈ tables_1 := it5 (m81 (mt (mt (mt (mt (mt (mt mh)))))))
theorem tq_994 : (.privateMethod yX5_canOpen : Cond) ∈ tables_1 := it5 (m81 (mt (mt (mt (mt (mt (mt (mt mh))))))))
theorem tq_995 : (.instanceMethod yX5_canOpen : Cond) ∈ tables_1 := it5 (m81 (mt (mt (mt (mt (mt (mt (mt (mt mh)))))))))
theorem tq_996 : ((Jvm.Cond.code ({ cls := "TickPools$Runner", name := "canOpen", desc := "()Z" } : Jvm.MethodName) prog_7_method_14_code (1 : Nat) (Option.some Jvm.ClassFile.FieldType.boolean)) : Cond) ∈ tables_1 := it5 (m81 (m9 mh))
theorem tq_997 : (.methodLink "TickPools$Runner" 216 yX5_openBracket : Cond) ∈ tables_1 := it5 (m81 (m9 (mt mh)))
theorem tq_998 : (.privateMethod yX5_openBracket : Cond) ∈ tables_1 := it5 (m81 (m9 (mt (mt mh))))
theorem tq_999 : (.instanceMethod yX5_openBracket : Cond) ∈ tables_1 := it5 (m81 (m9 (mt (mt (mt mh)))))
theorem tq_1000 : ((Jvm.Cond.code ({ cls := "TickPools$Runner", name := "openBracket", desc := "(II)V" } : Jvm.MethodName) prog_7_method_15_code (3 : Nat) (Option.none : Option Jvm.ClassFile.FieldType)) : Cond) ∈ tables_1 := it5 (m81 (m9 (mt (mt (mt (mt mh))))))
theorem tq_1001 : (.methodLink "TickPools$Runner" 127 yX5_doTimes : Cond) ∈ tables_1 := it5 (m81 (m9 (mt (mt (mt (mt (mt mh)))))))
theorem tq_1002 : (.privateMethod yX5_doTimes : Cond) ∈ tables_1 := it5 (m81 (m9 (mt (mt (mt (mt (mt (mt mh))))))))
theorem tq_1003 : (.instanceMethod yX5_doTimes : Cond) ∈ tables_1 := it5 (m81 (m9 (mt (mt (mt (mt (mt (mt (mt mh)))))))))
theorem tq_1004 : ((Jvm.Cond.code ({ cls := "TickPools$Runner", name := "doTimes", desc := "(LTickPools$Step;)Z" } : Jvm.MethodName) prog_7_method_13_code (2 : Nat) (Option.some Jvm.ClassFile.FieldType.boolean)) : Cond) ∈ tables_1 := it5 (m81 (m9 (mt (mt (mt (mt (mt (mt (mt (mt mh))))))))))
theorem tq_1005 : (.methodLink "TickPoolsLaw" 32 yX11_root : Cond) ∈ tables_1 := it5 (m81 (m9 (m9 mh)))
theorem tq_1006 : (.instanceMethod yX11_root : Cond) ∈ tables_1 := it5 (m81 (m9 (m9 (mt mh))))
theorem tq_1007 : (.selects "TickPools" yX11_root yX11_root : Cond) ∈ tables_1 := it5 (m81 (m9 (m9 (mt (mt mh)))))
theorem tq_1008 : ((Jvm.Cond.code ({ cls := "TickPools", name := "root", desc := "(I)I" } : Jvm.MethodName) prog_1_method_6_code (2 : Nat) (Option.some Jvm.ClassFile.FieldType.int)) : Cond) ∈ tables_1 := it5 (m81 (m9 (m9 (mt (mt (mt mh))))))
theorem tq_1009 : (.methodLink "TickPools" 116 yX11_isTick : Cond) ∈ tables_1 := it5 (m81 (m9 (m9 (mt (mt (mt (mt mh)))))))
theorem tq_1010 : (.methodLink "TickPools" 119 yX0_rootAt : Cond) ∈ tables_1 := it5 (m81 (m9 (m9 (mt (mt (mt (mt (mt mh))))))))
theorem tq_1011 : (.methodLink "TickPoolsLaw" 36 yX11_purse : Cond) ∈ tables_1 := it5 (m81 (m9 (m9 (mt (mt (mt (mt (mt (mt mh)))))))))
theorem tq_1012 : (.instanceMethod yX11_purse : Cond) ∈ tables_1 := it5 (m81 (m9 (m9 (mt (mt (mt (mt (mt (mt (mt mh))))))))))
theorem tq_1013 : (.selects "TickPools" yX11_purse yX11_purse : Cond) ∈ tables_1 := it5 (m81 (m9 (m9 (mt (mt (mt (mt (mt (mt (mt (mt mh)))))))))))
theorem tq_1014 : ((Jvm.Cond.code ({ cls := "TickPools", name := "purse", desc := "(II)I" } : Jvm.MethodName) prog_1_method_7_code (3 : Nat) (Option.some Jvm.ClassFile.FieldType.int)) : Cond) ∈ tables_1 := it5 (m81 (m81 mh))
theorem tq_1015 : (.methodLink "TickPools" 125 yX2_hasThing : Cond) ∈ tables_1 := it5 (m81 (m81 (mt mh)))
theorem tq_1016 : (.methodLink "TickPools" 128 yX2_purseOf : Cond) ∈ tables_1 := it5 (m81 (m81 (mt (mt mh))))
theorem tq_1017 : (.methodLink "TickPoolsLaw" 41 yX11_pool : Cond) ∈ tables_1 := it5 (m81 (m81 (mt (mt (mt mh)))))
theorem tq_1018 : (.instanceMethod yX11_pool : Cond) ∈ tables_1 := it5 (m81 (m81 (mt (mt (mt (mt mh))))))
theorem tq_1019 : (.selects "TickPools" yX11_pool yX11_pool : Cond) ∈ tables_1 := it5 (m81 (m81 (mt (mt (mt (mt (mt mh)))))))
theorem tq_1020 : ((Jvm.Cond.code ({ cls := "TickPools", name := "pool", desc := "(II)I" } : Jvm.MethodName) prog_1_method_8_code (4 : Nat) (Option.some Jvm.ClassFile.FieldType.int)) : Cond) ∈ tables_1 := it5 (m81 (m81 (mt (mt (mt (mt (mt (mt mh))))))))
theorem tq_1021 : (.methodLink "TickPools" 132 yX2_poolAt : Cond) ∈ tables_1 := it5 (m81 (m81 (mt (mt (mt (mt (mt (mt (mt mh)))))))))
theorem tq_1022 : (.methodLink "TickPools" 159 yX2_liquidityAt : Cond) ∈ tables_1 := it5 (m81 (m81 (mt (mt (mt (mt (mt (mt (mt (mt mh))))))))))
theorem tq_1023 : (.methodLink "TickPools" 170 yX2_overIn : Cond) ∈ tables_1 := it5 (m81 (m81 (m9 mh)))
theorem tq_1024 : (.instanceMethod yX2_overIn : Cond) ∈ tables_1 := it5 (m81 (m81 (m9 (mt mh))))
theorem tq_1025 : (.selects "TickPools$Market" yX2_overIn yX2_overIn : Cond) ∈ tables_1 := it5 (m81 (m81 (m9 (mt (mt mh)))))
theorem tq_1026 : ((Jvm.Cond.code ({ cls := "TickPools$Market", name := "overIn", desc := "(II)J" } : Jvm.MethodName) prog_4_method_16_code (8 : Nat) (Option.some Jvm.ClassFile.FieldType.long)) : Cond) ∈ tables_1 := it5 (m81 (m81 (m9 (mt (mt (mt mh))))))
theorem tq_1027 : (.methodLink "TickPools$Market" 113 yX7_owed : Cond) ∈ tables_1 := it5 (m81 (m81 (m9 (mt (mt (mt (mt mh)))))))
theorem tq_1028 : (.methodLink "TickPoolsLaw" 45 yX11_depth : Cond) ∈ tables_1 := it5 (m81 (m81 (m9 (mt (mt (mt (mt (mt mh))))))))
theorem tq_1029 : (.instanceMethod yX11_depth : Cond) ∈ tables_1 := it5 (m81 (m81 (m9 (mt (mt (mt (mt (mt (mt mh)))))))))
theorem tq_1030 : (.selects "TickPools" yX11_depth yX11_depth : Cond) ∈ tables_1 := it5 (m81 (m81 (m9 (mt (mt (mt (mt (mt (mt (mt mh))))))))))
theorem tq_1031 : ((Jvm.Cond.code ({ cls := "TickPools", name := "depth", desc := "(II)I" } : Jvm.MethodName) prog_1_method_9_code (3 : Nat) (Option.some Jvm.ClassFile.FieldType.int)) : Cond) ∈ tables_1 := it5 (m81 (m81 (m9 (mt (mt (mt (mt (mt (mt (mt (mt mh)))))))))))
theorem tq_1032 : (.methodLink "TickPools" 173 yX11_isZone : Cond) ∈ tables_1 := it5 (m81 (m81 (m9 (m9 mh))))
theorem tq_1033 : (.static yX11_isZone : Cond) ∈ tables_1 := it5 (m81 (m81 (m9 (m9 (mt mh)))))
theorem tq_1034 : ((Jvm.Cond.code ({ cls := "TickPools", name := "isZone", desc := "(I)Z" } : Jvm.MethodName) prog_1_method_32_code (1 : Nat) (Option.some Jvm.ClassFile.FieldType.boolean)) : Cond) ∈ tables_1 := it5 (m81 (m81 (m9 (m9 (mt (mt mh))))))
theorem tq_1035 : (.methodLink "TickPoolsLaw" 49 yX11_stake : Cond) ∈ tables_1 := it5 (m81 (m81 (m9 (m9 (mt (mt (mt mh)))))))
theorem tq_1036 : (.instanceMethod yX11_stake : Cond) ∈ tables_1 := it5 (m81 (m81 (m9 (m9 (mt (mt (mt (mt mh))))))))
theorem tq_1037 : (.selects "TickPools" yX11_stake yX11_stake : Cond) ∈ tables_1 := it5 (m81 (m81 (m9 (m9 (mt (mt (mt (mt (mt mh)))))))))
theorem tq_1038 : ((Jvm.Cond.code ({ cls := "TickPools", name := "stake", desc := "(II)I" } : Jvm.MethodName) prog_1_method_10_code (5 : Nat) (Option.some Jvm.ClassFile.FieldType.int)) : Cond) ∈ tables_1 := it5 (m81 (m81 (m9 (m9 (mt (mt (mt (mt (mt (mt mh))))))))))
theorem tq_1039 : (.methodLink "TickPools" 176 yX2_stakeAt : Cond) ∈ tables_1 := it5 (m81 (m81 (m9 (m9 (mt (mt (mt (mt (mt (mt (mt mh)))))))))))
theorem tq_1040 : (.methodLink "TickPools" 200 yX7_liesIn : Cond) ∈ tables_1 := it5 (m81 (m81 (m9 (m9 (mt (mt (mt (mt (mt (mt (mt (mt mh))))))))))))
theorem tq_1041 : (.methodLink "TickPools" 204 yX7_owed : Cond) ∈ tables_1 := it5 (m81 (m81 (m81 mh)))
theorem tq_1042 : (.methodLink "TickPools" 208 yX7_reaches : Cond) ∈ tables_1 := it5 (m81 (m81 (m81 (mt mh))))
theorem tq_1043 : (.methodLink "TickPoolsLaw" 53 yX11_add : Cond) ∈ tables_1 := it5 (m81 (m81 (m81 (mt (mt mh)))))
theorem tq_1044 : (.instanceMethod yX11_add : Cond) ∈ tables_1 := it5 (m81 (m81 (m81 (mt (mt (mt mh))))))
theorem tq_1045 : (.selects "TickPools" yX11_add yX11_add : Cond) ∈ tables_1 := it5 (m81 (m81 (m81 (mt (mt (mt (mt mh)))))))
theorem tq_1046 : ((Jvm.Cond.code ({ cls := "TickPools", name := "add", desc := "(IIIIII)I" } : Jvm.MethodName) prog_1_method_11_code (7 : Nat) (Option.some Jvm.ClassFile.FieldType.int)) : Cond) ∈ tables_1 := it5 (m81 (m81 (m81 (mt (mt (mt (mt (mt mh))))))))
theorem tq_1047 : (.methodLink "TickPools" 211 yX2_addStake : Cond) ∈ tables_1 := it5 (m81 (m81 (m81 (mt (mt (mt (mt (mt (mt mh)))))))))
theorem tq_1048 : (.methodLink "TickPoolsLaw" 58 yX11_take : Cond) ∈ tables_1 := it5 (m81 (m81 (m81 (mt (mt (mt (mt (mt (mt (mt mh))))))))))
theorem tq_1049 : (.instanceMethod yX11_take : Cond) ∈ tables_1 := it5 (m81 (m81 (m81 (mt (mt (mt (mt (mt (mt (mt (mt mh)))))))))))
theorem tq_1050 : (.selects "TickPools" yX11_take yX11_take : Cond) ∈ tables_1 := it5 (m81 (m81 (m81 (m9 mh))))
theorem tq_1051 : ((Jvm.Cond.code ({ cls := "TickPools", name := "take", desc := "(II)I" } : Jvm.MethodName) prog_1_method_12_code (4 : Nat) (Option.some Jvm.ClassFile.FieldType.int)) : Cond) ∈ tables_1 := it5 (m81 (m81 (m81 (m9 (mt mh)))))
theorem tq_1052 : (.methodLink "TickPools" 215 yX2_withdraw : Cond) ∈ tables_1 := it5 (m81 (m81 (m81 (m9 (mt (mt mh))))))
theorem tq_1053 : (.methodLink "TickPoolsLaw" 62 yX11_pay : Cond) ∈ tables_1 := it5 (m81 (m81 (m81 (m9 (mt (mt (mt mh)))))))
theorem tq_1054 : (.instanceMethod yX11_pay : Cond) ∈ tables_1 := it5 (m81 (m81 (m81 (m9 (mt (mt (mt (mt mh))))))))
theorem tq_1055 : (.selects "TickPools" yX11_pay yX11_pay : Cond) ∈ tables_1 := it5 (m81 (m81 (m81 (m9 (mt (mt (mt (mt (mt mh)))))))))
theorem tq_1056 : ((Jvm.Cond.code ({ cls := "TickPools", name := "pay", desc := "(I)I" } : Jvm.MethodName) prog_1_method_13_code (6 : Nat) (Option.some Jvm.ClassFile.FieldType.int)) : Cond) ∈ tables_1 := it5 (m81 (m81 (m81 (m9 (mt (mt (mt (mt (mt (mt mh))))))))))
theorem tq_1057 : (.methodLink "TickPools" 222 yX7_settle : Cond) ∈ tables_1 := it5 (m81 (m81 (m81 (m9 (mt (mt (mt (mt (mt (mt (mt mh)))))))))))
theorem tq_1058 : (.methodLink "TickPools" 229 yX2_payOut : Cond) ∈ tables_1 := it5 (m81 (m81 (m81 (m9 (mt (mt (mt (mt (mt (mt (mt (mt mh))))))))))))
theorem tq_1059 : (.methodLink "TickPoolsLaw" 66 yX11_levy : Cond) ∈ tables_1 := it5 (m81 (m81 (m81 (m9 (m9 mh)))))
theorem tq_1060 : (.instanceMethod yX11_levy : Cond) ∈ tables_1 := it5 (m81 (m81 (m81 (m9 (m9 (mt mh))))))
theorem tq_1061 : (.selects "TickPools" yX11_levy yX11_levy : Cond) ∈ tables_1 := it5 (m81 (m81 (m81 (m9 (m9 (mt (mt mh)))))))
theorem tq_1062 : ((Jvm.Cond.code ({ cls := "TickPools", name := "levy", desc := "(I)I" } : Jvm.MethodName) prog_1_method_14_code (5 : Nat) (Option.some Jvm.ClassFile.FieldType.int)) : Cond) ∈ tables_1 := it5 (m81 (m81 (m81 (m9 (m9 (mt (mt (mt mh))))))))
theorem tq_1063 : (.methodLink "TickPoolsLaw" 70 yX11_in : Cond) ∈ tables_1 := it5 (m81 (m81 (m81 (m9 (m9 (mt (mt (mt (mt mh)))))))))
theorem tq_1064 : (.instanceMethod yX11_in : Cond) ∈ tables_1 := it5 (m81 (m81 (m81 (m9 (m9 (mt (mt (mt (mt (mt mh))))))))))
theorem tq_1065 : (.selects "TickPools" yX11_in yX11_in : Cond) ∈ tables_1 := it5 (m81 (m81 (m81 (m9 (m9 (mt (mt (mt (mt (mt (mt mh)))))))))))
theorem tq_1066 : ((Jvm.Cond.code ({ cls := "TickPools", name := "in", desc := "(IIIII)I" } : Jvm.MethodName) prog_1_method_15_code (7 : Nat) (Option.some Jvm.ClassFile.FieldType.int)) : Cond) ∈ tables_1 := it5 (m81 (m81 (m81 (m9 (m9 (mt (mt (mt (mt (mt (mt (mt mh))))))))))))
theorem tq_1067 : (.methodLink "TickPools" 233 yX11_isSide : Cond) ∈ tables_1 := it5 (m81 (m81 (m81 (m9 (m9 (mt (mt (mt (mt (mt (mt (mt (mt mh)))))))))))))
theorem tq_1068 : (.methodLink "TickPools" 236 yX4_thingOn : Cond) ∈ tables_1 := it5 (m81 (m81 (m81 (m81 mh))))
theorem tq_1069 : (.methodLink "TickPools" 239 yX10_pour : Cond) ∈ tables_1 := it5 (m81 (m81 (m81 (m81 (mt mh)))))
theorem tq_1070 : (.methodLink "TickPoolsLaw" 74 yX11_out : Cond) ∈ tables_1 := it5 (m81 (m81 (m81 (m81 (mt (mt mh))))))
theorem tq_1071 : (.instanceMethod yX11_out : Cond) ∈ tables_1 := it5 (m81 (m81 (m81 (m81 (mt (mt (mt mh)))))))
theorem tq_1072 : (.selects "TickPools" yX11_out yX11_out : Cond) ∈ tables_1 := it5 (m81 (m81 (m81 (m81 (mt (mt (mt (mt mh))))))))
theorem tq_1073 : ((Jvm.Cond.code ({ cls := "TickPools", name := "out", desc := "(IIII)I" } : Jvm.MethodName) prog_1_method_16_code (6 : Nat) (Option.some Jvm.ClassFile.FieldType.int)) : Cond) ∈ tables_1 := it5 (m81 (m81 (m81 (m81 (mt (mt (mt (mt (mt mh)))))))))
theorem tq_1074 : (.methodLink "TickPools" 247 yX11_isAmount : Cond) ∈ tables_1 := it5 (m81 (m81 (m81 (m81 (mt (mt (mt (mt (mt (mt mh))))))))))
theorem tq_1075 : (.static yX11_isAmount : Cond) ∈ tables_1 := it5 (m81 (m81 (m81 (m81 (mt (mt (mt (mt (mt (mt (mt mh)))))))))))
theorem tq_1076 : ((Jvm.Cond.code ({ cls := "TickPools", name := "isAmount", desc := "(I)Z" } : Jvm.MethodName) prog_1_method_34_code (1 : Nat) (Option.some Jvm.ClassFile.FieldType.boolean)) : Cond) ∈ tables_1 := it5 (m81 (m81 (m81 (m81 (mt (mt (mt (mt (mt (mt (mt (mt mh))))))))))))
theorem tq_1077 : (.constant "TickPools" 266 9999999 : Cond) ∈ tables_1 := it5 (m81 (m81 (m81 (m81 (m9 mh)))))
theorem tq_1078 : (.methodLink "TickPools" 250 yX10_drain : Cond) ∈ tables_1 := it5 (m81 (m81 (m81 (m81 (m9 (mt mh))))))
theorem tq_1079 : (.methodLink "TickPoolsLaw" 79 yX11_passes : Cond) ∈ tables_1 := it5 (m81 (m81 (m81 (m81 (m9 (mt (mt mh)))))))
theorem tq_1080 : (.instanceMethod yX11_passes : Cond) ∈ tables_1 := it5 (m81 (m81 (m81 (m81 (m9 (mt (mt (mt mh))))))))
theorem tq_1081 : (.selects "TickPools" yX11_passes yX11_passes : Cond) ∈ tables_1 := it5 (m81 (m81 (m81 (m81 (m9 (mt (mt (mt (mt mh)))))))))
theorem tq_1082 : ((Jvm.Cond.code ({ cls := "TickPools", name := "passes", desc := "(I)I" } : Jvm.MethodName) prog_1_method_17_code (2 : Nat) (Option.some Jvm.ClassFile.FieldType.int)) : Cond) ∈ tables_1 := it5 (m81 (m81 (m81 (m81 (m9 (mt (mt (mt (mt (mt mh))))))))))
theorem tq_1083 : (.methodLink "TickPoolsLaw" 83 yX11_mean : Cond) ∈ tables_1 := it5 (m81 (m81 (m81 (m81 (m9 (mt (mt (mt (mt (mt (mt mh)))))))))))
theorem tq_1084 : (.instanceMethod yX11_mean : Cond) ∈ tables_1 := it5 (m81 (m81 (m81 (m81 (m9 (mt (mt (mt (mt (mt (mt (mt mh))))))))))))
theorem tq_1085 : (.selects "TickPools" yX11_mean yX11_mean : Cond) ∈ tables_1 := it5 (m81 (m81 (m81 (m81 (m9 (mt (mt (mt (mt (mt (mt (mt (mt mh)))))))))))))
theorem tq_1086 : ((Jvm.Cond.code ({ cls := "TickPools", name := "mean", desc := "(II)I" } : Jvm.MethodName) prog_1_method_18_code (5 : Nat) (Option.some Jvm.ClassFile.FieldType.int)) : Cond) ∈ tables_1 := it5 (m81 (m81 (m81 (m81 (m9 (m9 mh))))))
theorem tq_1087 : (.methodLink "TickPools" 267 yX4_firstMark : Cond) ∈ tables_1 := it5 (m81 (m81 (m81 (m81 (m9 (m9 (mt mh)))))))
theorem tq_1088 : (.instanceMethod yX4_firstMark : Cond) ∈ tables_1 := it5 (m81 (m81 (m81 (m81 (m9 (m9 (mt (mt mh))))))))
theorem tq_1089 : (.selects "TickPools$Pool" yX4_firstMark yX4_firstMark : Cond) ∈ tables_1 := it5 (m81 (m81 (m81 (m81 (m9 (m9 (mt (mt (mt mh)))))))))
theorem tq_1090 : ((Jvm.Cond.code ({ cls := "TickPools$Pool", name := "firstMark", desc := "()I" } : Jvm.MethodName) prog_6_method_7_code (1 : Nat) (Option.some Jvm.ClassFile.FieldType.int)) : Cond) ∈ tables_1 := it5 (m81 (m81 (m81 (m81 (m9 (m9 (mt (mt (mt (mt mh))))))))))
theorem tq_1091 : (.methodLink "TickPools" 271 yX4_sumAt : Cond) ∈ tables_1 := it5 (m81 (m81 (m81 (m81 (m9 (m9 (mt (mt (mt (mt (mt mh)))))))))))
theorem tq_1092 : (.methodLink "TickPoolsLaw" 87 yX11_quoteIn : Cond) ∈ tables_1 := it5 (m81 (m81 (m81 (m81 (m9 (m9 (mt (mt (mt (mt (mt (mt mh))))))))))))
theorem tq_1093 : (.instanceMethod yX11_quoteIn : Cond) ∈ tables_1 := it5 (m81 (m81 (m81 (m81 (m9 (m9 (mt (mt (mt (mt (mt (mt (mt mh)))))))))))))
theorem tq_1094 : (.selects "TickPools" yX11_quoteIn yX11_quoteIn : Cond) ∈ tables_1 := it5 (m81 (m81 (m81 (m81 (m9 (m9 (mt (mt (mt (mt (mt (mt (mt (mt mh))))))))))))))
theorem tq_1095 : ((Jvm.Cond.code ({ cls := "TickPools", name := "quoteIn", desc := "(IIIII)I" } : Jvm.MethodName) prog_1_method_19_code (6 : Nat) (Option.some Jvm.ClassFile.FieldType.int)) : Cond) ∈ tables_1 := it5 (m81 (m81 (m81 (m81 (m81 mh)))))
theorem tq_1096 : (.methodLink "TickPools" 274 yX11_canAsk : Cond) ∈ tables_1 := it5 (m81 (m81 (m81 (m81 (m81 (mt mh))))))
theorem tq_1097 : (.privateMethod yX11_canAsk : Cond) ∈ tables_1 := it5 (m81 (m81 (m81 (m81 (m81 (mt (mt mh)))))))
theorem tq_1098 : (.instanceMethod yX11_canAsk : Cond) ∈ tables_1 := it5 (m81 (m81 (m81 (m81 (m81 (mt (mt (mt mh))))))))
theorem tq_1099 : ((Jvm.Cond.code ({ cls := "TickPools", name := "canAsk", desc := "(III)Z" } : Jvm.MethodName) prog_1_method_28_code (4 : Nat) (Option.some Jvm.ClassFile.FieldType.boolean)) : Cond) ∈ tables_1 := it5 (m81 (m81 (m81 (m81 (m81 (mt (mt (mt (mt mh)))))))))
theorem tq_1100 : (.methodLink "TickPoolsLaw" 91 yX11_quoteOut : Cond) ∈ tables_1 := it5 (m81 (m81 (m81 (m81 (m81 (mt (mt (mt (mt (mt mh))))))))))
theorem tq_1101 : (.instanceMethod yX11_quoteOut : Cond) ∈ tables_1 := it5 (m81 (m81 (m81 (m81 (m81 (mt (mt (mt (mt (mt (mt mh)))))))))))
theorem tq_1102 : (.selects "TickPools" yX11_quoteOut yX11_quoteOut : Cond) ∈ tables_1 := it5 (m81 (m81 (m81 (m81 (m81 (mt (mt (mt (mt (mt (mt (mt mh))))))))))))
theorem tq_1103 : ((Jvm.Cond.code ({ cls := "TickPools", name := "quoteOut", desc := "(IIII)I" } : Jvm.MethodName) prog_1_method_20_code (5 : Nat) (Option.some Jvm.ClassFile.FieldType.int)) : Cond) ∈ tables_1 := it5 (m81 (m81 (m81 (m81 (m81 (mt (mt (mt (mt (mt (mt (mt (mt mh)))))))))))))
theorem tq_1104 : (.methodLink "TickPoolsLaw" 95 yX11_round : Cond) ∈ tables_1 := it5 (m81 (m81 (m81 (m81 (m81 (m9 mh))))))
theorem tq_1105 : (.instanceMethod yX11_round : Cond) ∈ tables_1 := it5 (m81 (m81 (m81 (m81 (m81 (m9 (mt mh)))))))
theorem tq_1106 : (.selects "TickPools" yX11_round yX11_round : Cond) ∈ tables_1 := it5 (m81 (m81 (m81 (m81 (m81 (m9 (mt (mt mh))))))))
theorem tq_1107 : ((Jvm.Cond.code ({ cls := "TickPools", name := "round", desc := "(III)I" } : Jvm.MethodName) prog_1_method_21_code (4 : Nat) (Option.some Jvm.ClassFile.FieldType.int)) : Cond) ∈ tables_1 := it5 (m81 (m81 (m81 (m81 (m81 (m9 (mt (mt (mt mh)))))))))
theorem tq_1108 : (.methodLink "TickPools" 285 yX11_lastTick : Cond) ∈ tables_1 := it5 (m81 (m81 (m81 (m81 (m81 (m9 (mt (mt (mt (mt mh))))))))))
theorem tq_1109 : (.methodLink "TickPoolsLaw" 100 yX11_least : Cond) ∈ tables_1 := it5 (m81 (m81 (m81 (m81 (m81 (m9 (mt (mt (mt (mt (mt mh)))))))))))
theorem tq_1110 : (.instanceMethod yX11_least : Cond) ∈ tables_1 := it5 (m81 (m81 (m81 (m81 (m81 (m9 (mt (mt (mt (mt (mt (mt mh))))))))))))
theorem tq_1111 : (.selects "TickPools" yX11_least yX11_least : Cond) ∈ tables_1 := it5 (m81 (m81 (m81 (m81 (m81 (m9 (mt (mt (mt (mt (mt (mt (mt mh)))))))))))))
theorem tq_1112 : ((Jvm.Cond.code ({ cls := "TickPools", name := "least", desc := "(III)I" } : Jvm.MethodName) prog_1_method_22_code (8 : Nat) (Option.some Jvm.ClassFile.FieldType.int)) : Cond) ∈ tables_1 := it5 (m81 (m81 (m81 (m81 (m81 (m9 (mt (mt (mt (mt (mt (mt (mt (mt mh))))))))))))))
theorem tq_1113 : (.methodLink "TickPools" 288 yX11_comesTo : Cond) ∈ tables_1 := it5 (m81 (m81 (m81 (m81 (m81 (m9 (m9 mh)))))))
theorem tq_1114 : (.privateMethod yX11_comesTo : Cond) ∈ tables_1 := it5 (m81 (m81 (m81 (m81 (m81 (m9 (m9 (mt mh))))))))
theorem tq_1115 : (.instanceMethod yX11_comesTo : Cond) ∈ tables_1 := it5 (m81 (m81 (m81 (m81 (m81 (m9 (m9 (mt (mt mh)))))))))
theorem tq_1116 : ((Jvm.Cond.code ({ cls := "TickPools", name := "comesTo", desc := "(IIII)Z" } : Jvm.MethodName) prog_1_method_30_code (5 : Nat) (Option.some Jvm.ClassFile.FieldType.boolean)) : Cond) ∈ tables_1 := it5 (m81 (m81 (m81 (m81 (m81 (m9 (m9 (mt (mt (mt mh))))))))))
theorem tq_1117 : (.methodLink "TickPoolsLaw" 104 yX11_route : Cond) ∈ tables_1 := it5 (m81 (m81 (m81 (m81 (m81 (m9 (m9 (mt (mt (mt (mt mh)))))))))))
theorem tq_1118 : (.instanceMethod yX11_route : Cond) ∈ tables_1 := it5 (m81 (m81 (m81 (m81 (m81 (m9 (m9 (mt (mt (mt (mt (mt mh))))))))))))
theorem tq_1119 : (.selects "TickPools" yX11_route yX11_route : Cond) ∈ tables_1 := it5 (m81 (m81 (m81 (m81 (m81 (m9 (m9 (mt (mt (mt (mt (mt (mt mh)))))))))))))
theorem tq_1120 : ((Jvm.Cond.code ({ cls := "TickPools", name := "route", desc := "(IIII)I" } : Jvm.MethodName) prog_1_method_23_code (5 : Nat) (Option.some Jvm.ClassFile.FieldType.int)) : Cond) ∈ tables_1 := it5 (m81 (m81 (m81 (m81 (m81 (m9 (m9 (mt (mt (mt (mt (mt (mt (mt mh))))))))))))))
theorem tq_1121 : (.methodLink "TickPools" 292 yX11_canWander : Cond) ∈ tables_1 := it5 (m81 (m81 (m81 (m81 (m81 (m9 (m9 (mt (mt (mt (mt (mt (mt (mt (mt mh)))))))))))))))
theorem tq_1122 : (.privateMethod yX11_canWander : Cond) ∈ tables_1 := it5 (m81 (m81 (m81 (m81 (m81 (m81 mh))))))
theorem tq_1123 : (.instanceMethod yX11_canWander : Cond) ∈ tables_1 := it5 (m81 (m81 (m81 (m81 (m81 (m81 (mt mh)))))))
theorem tq_1124 : ((Jvm.Cond.code ({ cls := "TickPools", name := "canWander", desc := "(III)Z" } : Jvm.MethodName) prog_1_method_29_code (4 : Nat) (Option.some Jvm.ClassFile.FieldType.boolean)) : Cond) ∈ tables_1 := it5 (m81 (m81 (m81 (m81 (m81 (m81 (mt (mt mh))))))))
theorem tq_1125 : (.methodLink "TickPools" 295 yX1_forget : Cond) ∈ tables_1 := it5 (m81 (m81 (m81 (m81 (m81 (m81 (mt (mt (mt mh)))))))))
theorem tq_1126 : (.instanceMethod yX1_forget : Cond) ∈ tables_1 := it5 (m81 (m81 (m81 (m81 (m81 (m81 (mt (mt (mt (mt mh))))))))))
theorem tq_1127 : (.selects "TickPools$Finder" yX1_forget yX1_forget : Cond) ∈ tables_1 := it5 (m81 (m81 (m81 (m81 (m81 (m81 (mt (mt (mt (mt (mt mh)))))))))))
theorem tq_1128 : ((Jvm.Cond.code ({ cls := "TickPools$Finder", name := "forget", desc := "(I)V" } : Jvm.MethodName) prog_3_method_4_code (2 : Nat) (Option.none : Option Jvm.ClassFile.FieldType)) : Cond) ∈ tables_1 := it5 (m81 (m81 (m81 (m81 (m81 (m81 (mt (mt (mt (mt (mt (mt mh))))))))))))
theorem tq_1129 : (.methodLink "TickPools" 298 yX1_search : Cond) ∈ tables_1 := it5 (m81 (m81 (m81 (m81 (m81 (m81 (mt (mt (mt (mt (mt (mt (mt mh)))))))))))))
theorem tq_1130 : (.instanceMethod yX1_search : Cond) ∈ tables_1 := it5 (m81 (m81 (m81 (m81 (m81 (m81 (mt (mt (mt (mt (mt (mt (mt (mt mh))))))))))))))
theorem tq_1131 : (.selects "TickPools$Finder" yX1_search yX1_search : Cond) ∈ tables_1 := it5 (m81 (m81 (m81 (m81 (m81 (m81 (m9 mh)))))))
theorem tq_1132 : ((Jvm.Cond.code ({ cls := "TickPools$Finder", name := "search", desc := "(LTickPools$Market;III)V" } : Jvm.MethodName) prog_3_method_5_code (13 : Nat) (Option.none : Option Jvm.ClassFile.FieldType)) : Cond) ∈ tables_1 := it5 (m81 (m81 (m81 (m81 (m81 (m81 (m9 (mt mh))))))))
theorem tq_1133 : (.constant "TickPools$Finder" 43 100000 : Cond) ∈ tables_1 := it5 (m81 (m81 (m81 (m81 (m81 (m81 (m9 (mt (mt mh)))))))))
theorem tq_1134 : (.methodLink "TickPools$Finder" 49 yX1_otherThing : Cond) ∈ tables_1 := it5 (m81 (m81 (m81 (m81 (m81 (m81 (m9 (mt (mt (mt mh))))))))))
theorem tq_1135 : (.privateMethod yX1_otherThing : Cond) ∈ tables_1 := it5 (m81 (m81 (m81 (m81 (m81 (m81 (m9 (mt (mt (mt (mt mh)))))))))))
theorem tq_1136 : (.instanceMethod yX1_otherThing : Cond) ∈ tables_1 := it5 (m81 (m81 (m81 (m81 (m81 (m81 (m9 (mt (mt (mt (mt (mt mh))))))))))))
theorem tq_1137 : ((Jvm.Cond.code ({ cls := "TickPools$Finder", name := "otherThing", desc := "(LTickPools$Market;II)I" } : Jvm.MethodName) prog_3_method_6_code (6 : Nat) (Option.some Jvm.ClassFile.FieldType.int)) : Cond) ∈ tables_1 := it5 (m81 (m81 (m81 (m81 (m81 (m81 (m9 (mt (mt (mt (mt (mt (mt mh)))))))))))))
theorem tq_1138 : (.methodLink "TickPools$Finder" 65 yX2_poolAt : Cond) ∈ tables_1 := it5 (m81 (m81 (m81 (m81 (m81 (m81 (m9 (mt (mt (mt (mt (mt (mt (mt mh))))))))))))))
theorem tq_1139 : (.methodLink "TickPools$Finder" 69 yX4_sideOf : Cond) ∈ tables_1 := it5 (m81 (m81 (m81 (m81 (m81 (m81 (m9 (mt (mt (mt (mt (mt (mt (mt (mt mh)))))))))))))))
theorem tq_1140 : (.instanceMethod yX4_sideOf : Cond) ∈ tables_1 := it5 (m81 (m81 (m81 (m81 (m81 (m81 (m9 (m9 mh))))))))
theorem tq_1141 : (.selects "TickPools$Pool" yX4_sideOf yX4_sideOf : Cond) ∈ tables_1 := it5 (m81 (m81 (m81 (m81 (m81 (m81 (m9 (m9 (mt mh)))))))))
theorem tq_1142 : ((Jvm.Cond.code ({ cls := "TickPools$Pool", name := "sideOf", desc := "(I)I" } : Jvm.MethodName) prog_6_method_6_code (2 : Nat) (Option.some Jvm.ClassFile.FieldType.int)) : Cond) ∈ tables_1 := it5 (m81 (m81 (m81 (m81 (m81 (m81 (m9 (m9 (mt (mt mh))))))))))
theorem tq_1143 : (.methodLink "TickPools$Finder" 75 yX4_thingOn : Cond) ∈ tables_1 := it5 (m81 (m81 (m81 (m81 (m81 (m81 (m9 (m9 (mt (mt (mt mh)))))))))))
theorem tq_1144 : (.methodLink "TickPools$Finder" 53 yX1_wasAt : Cond) ∈ tables_1 := it5 (m81 (m81 (m81 (m81 (m81 (m81 (m9 (m9 (mt (mt (mt (mt mh))))))))))))
theorem tq_1145 : (.privateMethod yX1_wasAt : Cond) ∈ tables_1 := it5 (m81 (m81 (m81 (m81 (m81 (m81 (m9 (m9 (mt (mt (mt (mt (mt mh)))))))))))))
theorem tq_1146 : (.instanceMethod yX1_wasAt : Cond) ∈ tables_1 := it5 (m81 (m81 (m81 (m81 (m81 (m81 (m9 (m9 (mt (mt (mt (mt (mt (mt mh))))))))))))))
theorem tq_1147 : ((Jvm.Cond.code ({ cls := "TickPools$Finder", name := "wasAt", desc := "(II)Z" } : Jvm.MethodName) prog_3_method_7_code (4 : Nat) (Option.some Jvm.ClassFile.FieldType.boolean)) : Cond) ∈ tables_1 := it5 (m81 (m81 (m81 (m81 (m81 (m81 (m9 (m9 (mt (mt (mt (mt (mt (mt (mt mh)))))))))))))))
theorem tq_1148 : (.methodLink "TickPools$Finder" 57 yX1_trial : Cond) ∈ tables_1 := it5 (m81 (m81 (m81 (m81 (m81 (m81 (m9 (m9 (mt (mt (mt (mt (mt (mt (mt (mt mh))))))))))))))))
theorem tq_1149 : (.privateMethod yX1_trial : Cond) ∈ tables_1 := it5 (m81 (m81 (m81 (m81 (m81 (m81 (m81 mh)))))))
theorem tq_1150 : (.instanceMethod yX1_trial : Cond) ∈ tables_1 := it5 (m81 (m81 (m81 (m81 (m81 (m81 (m81 (mt mh))))))))
theorem tq_1151 : ((Jvm.Cond.code ({ cls := "TickPools$Finder", name := "trial", desc := "(LTickPools$Market;II)J" } : Jvm.MethodName) prog_3_method_8_code (6 : Nat) (Option.some Jvm.ClassFile.FieldType.long)) : Cond) ∈ tables_1 := it5 (m81 (m81 (m81 (m81 (m81 (m81 (m81 (mt (mt mh)))))))))
theorem tq_1152 : (.methodLinkNest "TickPools$Finder" 78 yX11_lastTick "TickPools" : Cond) ∈ tables_1 := it5 (m81 (m81 (m81 (m81 (m81 (m81 (m81 (mt (mt (mt mh))))))))))
theorem tq_1153 : (.methodLink "TickPools$Finder" 81 yX10_pour : Cond) ∈ tables_1 := it5 (m81 (m81 (m81 (m81 (m81 (m81 (m81 (mt (mt (mt (mt mh)))))))))))
theorem tq_1154 : (.methodLink "TickPools$Finder" 61 yX1_consider : Cond) ∈ tables_1 := it5 (m81 (m81 (m81 (m81 (m81 (m81 (m81 (mt (mt (mt (mt (mt mh))))))))))))
theorem tq_1155 : (.privateMethod yX1_consider : Cond) ∈ tables_1 := it5 (m81 (m81 (m81 (m81 (m81 (m81 (m81 (mt (mt (mt (mt (mt (mt mh)))))))))))))
theorem tq_1156 : (.instanceMethod yX1_consider : Cond) ∈ tables_1 := it5 (m81 (m81 (m81 (m81 (m81 (m81 (m81 (mt (mt (mt (mt (mt (mt (mt mh))))))))))))))
theorem tq_1157 : ((Jvm.Cond.code ({ cls := "TickPools$Finder", name := "consider", desc := "(IJI)V" } : Jvm.MethodName) prog_3_method_9_code (8 : Nat) (Option.none : Option Jvm.ClassFile.FieldType)) : Cond) ∈ tables_1 := it5 (m81 (m81 (m81 (m81 (m81 (m81 (m81 (mt (mt (mt (mt (mt (mt (mt (mt mh)))))))))))))))
theorem tq_1158 : (.methodLink "TickPools$Finder" 90 ⟨"java/lang/System", "arraycopy", "(Ljava/lang/Object;ILjava/lang/Object;II)V"⟩ : Cond) ∈ tables_1 := it5 (m81 (m81 (m81 (m81 (m81 (m81 (m81 (m9 mh))))))))
theorem tq_1159 : (.methodLink "TickPools" 308 yX1_bestPool : Cond) ∈ tables_1 := it5 (m81 (m81 (m81 (m81 (m81 (m81 (m81 (m9 (mt mh)))))))))
theorem tq_1160 : (.instanceMethod yX1_bestPool : Cond) ∈ tables_1 := it5 (m81 (m81 (m81 (m81 (m81 (m81 (m81 (m9 (mt (mt mh))))))))))
theorem tq_1161 : (.selects "TickPools$Finder" yX1_bestPool yX1_bestPool : Cond) ∈ tables_1 := it5 (m81 (m81 (m81 (m81 (m81 (m81 (m81 (m9 (mt (mt (mt mh)))))))))))
theorem tq_1162 : ((Jvm.Cond.code ({ cls := "TickPools$Finder", name := "bestPool", desc := "(I)I" } : Jvm.MethodName) prog_3_method_2_code (2 : Nat) (Option.some Jvm.ClassFile.FieldType.int)) : Cond) ∈ tables_1 := it5 (m81 (m81 (m81 (m81 (m81 (m81 (m81 (m9 (mt (mt (mt (mt mh))))))))))))
theorem tq_1163 : (.methodLink "TickPoolsLaw" 108 yX11_parts : Cond) ∈ tables_1 := it5 (m81 (m81 (m81 (m81 (m81 (m81 (m81 (m9 (mt (mt (mt (mt (mt mh)))))))))))))
theorem tq_1164 : (.instanceMethod yX11_parts : Cond) ∈ tables_1 := it5 (m81 (m81 (m81 (m81 (m81 (m81 (m81 (m9 (mt (mt (mt (mt (mt (mt mh))))))))))))))
theorem tq_1165 : (.selects "TickPools" yX11_parts yX11_parts : Cond) ∈ tables_1 := it5 (m81 (m81 (m81 (m81 (m81 (m81 (m81 (m9 (mt (mt (mt (mt (mt (mt (mt mh)))))))))))))))
theorem tq_1166 : ((Jvm.Cond.code ({ cls := "TickPools", name := "parts", desc := "(IIII)I" } : Jvm.MethodName) prog_1_method_24_code (11 : Nat) (Option.some Jvm.ClassFile.FieldType.int)) : Cond) ∈ tables_1 := it5 (m81 (m81 (m81 (m81 (m81 (m81 (m81 (m9 (mt (mt (mt (mt (mt (mt (mt (mt mh))))))))))))))))
theorem tq_1167 : (.methodLink "TickPools" 311 yX1_bestCode : Cond) ∈ tables_1 := it5 (m81 (m81 (m81 (m81 (m81 (m81 (m81 (m9 (m9 mh)))))))))
theorem tq_1168 : (.instanceMethod yX1_bestCode : Cond) ∈ tables_1 := it5 (m81 (m81 (m81 (m81 (m81 (m81 (m81 (m9 (m9 (mt mh))))))))))
theorem tq_1169 : (.selects "TickPools$Finder" yX1_bestCode yX1_bestCode : Cond) ∈ tables_1 := it5 (m81 (m81 (m81 (m81 (m81 (m81 (m81 (m9 (m9 (mt (mt mh)))))))))))
theorem tq_1170 : ((Jvm.Cond.code ({ cls := "TickPools$Finder", name := "bestCode", desc := "()I" } : Jvm.MethodName) prog_3_method_3_code (3 : Nat) (Option.some Jvm.ClassFile.FieldType.int)) : Cond) ∈ tables_1 := it5 (m81 (m81 (m81 (m81 (m81 (m81 (m81 (m9 (m9 (mt (mt (mt mh))))))))))))
theorem tq_1171 : (.methodLink "TickPools" 314 yX1_follow : Cond) ∈ tables_1 := it5 (m81 (m81 (m81 (m81 (m81 (m81 (m81 (m9 (m9 (mt (mt (mt (mt mh)))))))))))))
theorem tq_1172 : (.instanceMethod yX1_follow : Cond) ∈ tables_1 := it5 (m81 (m81 (m81 (m81 (m81 (m81 (m81 (m9 (m9 (mt (mt (mt (mt (mt mh))))))))))))))
theorem tq_1173 : (.selects "TickPools$Finder" yX1_follow yX1_follow : Cond) ∈ tables_1 := it5 (m81 (m81 (m81 (m81 (m81 (m81 (m81 (m9 (m9 (mt (mt (mt (mt (mt (mt mh)))))))))))))))
theorem tq_1174 : ((Jvm.Cond.code ({ cls := "TickPools$Finder", name := "follow", desc := "(LTickPools$Market;II)V" } : Jvm.MethodName) prog_3_method_10_code (10 : Nat) (Option.none : Option Jvm.ClassFile.FieldType)) : Cond) ∈ tables_1 := it5 (m81 (m81 (m81 (m81 (m81 (m81 (m81 (m9 (m9 (mt (mt (mt (mt (mt (mt (mt mh))))))))))))))))
theorem tq_1175 : (.methodLink "TickPoolsLaw" 112 yX11_ring : Cond) ∈ tables_1 := it5 (m81 (m81 (m81 (m81 (m81 (m81 (m81 (m9 (m9 (mt (mt (mt (mt (mt (mt (mt (mt mh)))))))))))))))))
theorem tq_1176 : (.instanceMethod yX11_ring : Cond) ∈ tables_1 := it5 (m81 (m81 (m81 (m81 (m81 (m81 (m81 (m81 mh))))))))
theorem tq_1177 : (.selects "TickPools" yX11_ring yX11_ring : Cond) ∈ tables_1 := it5 (m81 (m81 (m81 (m81 (m81 (m81 (m81 (m81 (mt mh)))))))))
theorem tq_1178 : ((Jvm.Cond.code ({ cls := "TickPools", name := "ring", desc := "(II)I" } : Jvm.MethodName) prog_1_method_25_code (4 : Nat) (Option.some Jvm.ClassFile.FieldType.int)) : Cond) ∈ tables_1 := it5 (m81 (m81 (m81 (m81 (m81 (m81 (m81 (m81 (mt (mt mh))))))))))
theorem tq_1179 : (.methodLink "TickPoolsLaw" 116 yX11_total : Cond) ∈ tables_1 := it5 (m81 (m81 (m81 (m81 (m81 (m81 (m81 (m81 (mt (mt (mt mh)))))))))))
theorem tq_1180 : (.instanceMethod yX11_total : Cond) ∈ tables_1 := it5 (m81 (m81 (m81 (m81 (m81 (m81 (m81 (m81 (mt (mt (mt (mt mh))))))))))))
theorem tq_1181 : (.selects "TickPools" yX11_total yX11_total : Cond) ∈ tables_1 := it5 (m81 (m81 (m81 (m81 (m81 (m81 (m81 (m81 (mt (mt (mt (mt (mt mh)))))))))))))
theorem tq_1182 : ((Jvm.Cond.code ({ cls := "TickPools", name := "total", desc := "(I)I" } : Jvm.MethodName) prog_1_method_26_code (2 : Nat) (Option.some Jvm.ClassFile.FieldType.int)) : Cond) ∈ tables_1 := it5 (m81 (m81 (m81 (m81 (m81 (m81 (m81 (m81 (mt (mt (mt (mt (mt (mt mh))))))))))))))
theorem tq_1183 : (.methodLink "TickPools" 321 yX2_allOf : Cond) ∈ tables_1 := it5 (m81 (m81 (m81 (m81 (m81 (m81 (m81 (m81 (mt (mt (mt (mt (mt (mt (mt mh)))))))))))))))
theorem tq_1184 : (.instanceMethod yX2_allOf : Cond) ∈ tables_1 := it5 (m81 (m81 (m81 (m81 (m81 (m81 (m81 (m81 (mt (mt (mt (mt (mt (mt (mt (mt mh))))))))))))))))
theorem tq_1185 : (.selects "TickPools$Market" yX2_allOf yX2_allOf : Cond) ∈ tables_1 := it5 (m81 (m81 (m81 (m81 (m81 (m81 (m81 (m81 (m9 mh)))))))))
theorem tq_1186 : ((Jvm.Cond.code ({ cls := "TickPools$Market", name := "allOf", desc := "(I)I" } : Jvm.MethodName) prog_4_method_12_code (5 : Nat) (Option.some Jvm.ClassFile.FieldType.int)) : Cond) ∈ tables_1 := it5 (m81 (m81 (m81 (m81 (m81 (m81 (m81 (m81 (m9 (mt mh))))))))))
theorem tq_1187 : (.methodLink "TickPools$Market" 80 yX4_sideOf : Cond) ∈ tables_1 := it5 (m81 (m81 (m81 (m81 (m81 (m81 (m81 (m81 (m9 (mt (mt mh)))))))))))
theorem tq_1188 : (.methodLink "TickPools$Market" 83 yX4_heldOn : Cond) ∈ tables_1 := it5 (m81 (m81 (m81 (m81 (m81 (m81 (m81 (m81 (m9 (mt (mt (mt mh))))))))))))
theorem tq_1189 : (.methodLink "TickPoolsLaw" 120 yX11_count : Cond) ∈ tables_1 := it5 (m81 (m81 (m81 (m81 (m81 (m81 (m81 (m81 (m9 (mt (mt (mt (mt mh)))))))))))))
theorem tq_1190 : (.instanceMethod yX11_count : Cond) ∈ tables_1 := it5 (m81 (m81 (m81 (m81 (m81 (m81 (m81 (m81 (m9 (mt (mt (mt (mt (mt mh))))))))))))))
theorem tq_1191 : (.selects "TickPools" yX11_count yX11_count : Cond) ∈ tables_1 := it5 (m81 (m81 (m81 (m81 (m81 (m81 (m81 (m81 (m9 (mt (mt (mt (mt (mt (mt mh)))))))))))))))
theorem tq_1192 : ((Jvm.Cond.code ({ cls := "TickPools", name := "count", desc := "(I)I" } : Jvm.MethodName) prog_1_method_27_code (2 : Nat) (Option.some Jvm.ClassFile.FieldType.int)) : Cond) ∈ tables_1 := it5 (m81 (m81 (m81 (m81 (m81 (m81 (m81 (m81 (m9 (mt (mt (mt (mt (mt (mt (mt mh))))))))))))))))
theorem tq_1193 : (.classLink "TickPoolsLaw" 10 "TickPoolsModel" : Cond) ∈ tables_1 := it5 (m81 (m81 (m81 (m81 (m81 (m81 (m81 (m81 (m9 (mt (mt (mt (mt (mt (mt (mt (mt mh)))))))))))))))))
theorem tq_1194 : (.instantiable "TickPoolsModel" 55 : Cond) ∈ tables_1 := it5 (m81 (m81 (m81 (m81 (m81 (m81 (m81 (m81 (m9 (m9 mh))))))))))
theorem tq_1195 : (.methodLink "TickPoolsLaw" 12 yX12_init : Cond) ∈ tables_1 := it5 (m81 (m81 (m81 (m81 (m81 (m81 (m81 (m81 (m9 (m9 (mt mh)))))))))))
theorem tq_1196 : (.instanceMethod yX12_init : Cond) ∈ tables_1 := it5 (m81 (m81 (m81 (m81 (m81 (m81 (m81 (m81 (m9 (m9 (mt (mt mh))))))))))))
theorem tq_1197 : ((Jvm.Cond.code ({ cls := "TickPoolsModel", name := "<init>", desc := "()V" } : Jvm.MethodName) prog_14_method_1_code (4 : Nat) (Option.none : Option Jvm.ClassFile.FieldType)) : Cond) ∈ tables_1 := it5 (m81 (m81 (m81 (m81 (m81 (m81 (m81 (m81 (m9 (m9 (mt (mt (mt mh)))))))))))))
theorem tq_1198 : (.methodLink "TickPoolsModel" 1 ⟨"java/lang/Object", "<init>", "()V"⟩ : Cond) ∈ tables_1 := it5 (m81 (m81 (m81 (m81 (m81 (m81 (m81 (m81 (m9 (m9 (mt (mt (mt (mt mh))))))))))))))
theorem tq_1199 : (.methodLink "TickPoolsModel" 27 yX12_word : Cond) ∈ tables_1 := it5 (m81 (m81 (m81 (m81 (m81 (m81 (m81 (m81 (m9 (m9 (mt (mt (mt (mt (mt mh)))))))))))))))
theorem tq_1200 : (.static yX12_word : Cond) ∈ tables_1 := it6 mh
theorem tq_1201 : ((Jvm.Cond.code ({ cls := "TickPoolsModel", name := "word", desc := "(IIIIII)J" } : Jvm.MethodName) prog_14_method_31_code (10 : Nat) (Option.some Jvm.ClassFile.FieldType.long)) : Cond) ∈ tables_1 := it6 (mt mh)
theorem tq_1202 : (.constantLong "TickPoolsModel" 158 27 : Cond) ∈ tables_1 := it6 (mt (mt mh))
theorem tq_1203 : (.constantLong "TickPoolsModel" 160 96 : Cond) ∈ tables_1 := it6 (mt (mt (mt mh)))
theorem tq_1204 : (.constantLong "TickPoolsModel" 104 10000000000 : Cond) ∈ tables_1 := it6 (mt (mt (mt (mt mh))))
theorem tq_1205 : (.methodLink "TickPoolsModel" 106 yX12_rootOfNumber : Cond) ∈ tables_1 := it6 (mt (mt (mt (mt (mt mh)))))
theorem tq_1206 : (.static yX12_rootOfNumber : Cond) ∈ tables_1 := it6 (mt (mt (mt (mt (mt (mt mh))))))
theorem tq_1207 : ((Jvm.Cond.code ({ cls := "TickPoolsModel", name := "rootOfNumber", desc := "(J)J" } : Jvm.MethodName) prog_14_method_4_code (6 : Nat) (Option.some Jvm.ClassFile.FieldType.long)) : Cond) ∈ tables_1 := it6 (mt (mt (mt (mt (mt (mt (mt mh)))))))
theorem tq_1208 : (.constantLong "TickPoolsModel" 114 16777216 : Cond) ∈ tables_1 := it6 (mt (mt (mt (mt (mt (mt (mt (mt mh))))))))
theorem tq_1209 : (.constantLong "TickPoolsModel" 110 11 : Cond) ∈ tables_1 := it6 (m9 mh)
theorem tq_1210 : (.constantLong "TickPoolsModel" 112 10 : Cond) ∈ tables_1 := it6 (m9 (mt mh))
theorem tq_1211 : (.fieldLink "TickPoolsModel" 7 "TickPoolsModel" "rootOf" "[J" : Cond) ∈ tables_1 := it6 (m9 (mt (mt mh)))
theorem tq_1212 : (.fieldLink "TickPoolsModel" 127 "TickPoolsModel" "things" "I" : Cond) ∈ tables_1 := it6 (m9 (mt (mt (mt mh))))
theorem tq_1213 : (.fieldLink "TickPoolsModel" 124 "TickPoolsModel" "people" "I" : Cond) ∈ tables_1 := it6 (m9 (mt (mt (mt (mt mh)))))
theorem tq_1214 : (.fieldLink "TickPoolsModel" 120 "TickPoolsModel" "pools" "I" : Cond) ∈ tables_1 := it6 (m9 (mt (mt (mt (mt (mt mh))))))
theorem tq_1215 : (.fieldLink "TickPoolsModel" 13 "TickPoolsModel" "told" "[I" : Cond) ∈ tables_1 := it6 (m9 (mt (mt (mt (mt (mt (mt mh)))))))
theorem tq_1216 : (.fieldLink "TickPoolsModel" 17 "TickPoolsModel" "now" "[J" : Cond) ∈ tables_1 := it6 (m9 (mt (mt (mt (mt (mt (mt (mt mh))))))))
theorem tq_1217 : (.fieldLink "TickPoolsModel" 20 "TickPoolsModel" "was" "[J" : Cond) ∈ tables_1 := it6 (m9 (mt (mt (mt (mt (mt (mt (mt (mt mh)))))))))
theorem tq_1218 : (.fieldLink "TickPoolsModel" 23 "TickPoolsModel" "tape" "[B" : Cond) ∈ tables_1 := it6 (m9 (m9 mh))
theorem tq_1219 : (.fieldLink "TickPoolsModel" 134 "TickPoolsModel" "taped" "I" : Cond) ∈ tables_1 := it6 (m9 (m9 (mt mh)))
theorem tq_1220 : (.fieldLink "TickPoolsModel" 144 "TickPoolsModel" "at" "I" : Cond) ∈ tables_1 := it6 (m9 (m9 (mt (mt mh))))
theorem tq_1221 : (.fieldLink "TickPoolsModel" 141 "TickPoolsModel" "wrong" "I" : Cond) ∈ tables_1 := it6 (m9 (m9 (mt (mt (mt mh)))))
theorem tq_1222 : (.fieldLink "TickPoolsModel" 169 "TickPoolsModel" "number" "I" : Cond) ∈ tables_1 := it6 (m9 (m9 (mt (mt (mt (mt mh))))))
theorem tq_1223 : (.fieldLink "TickPoolsModel" 31 "TickPoolsModel" "marketWord" "J" : Cond) ∈ tables_1 := it6 (m9 (m9 (mt (mt (mt (mt (mt mh)))))))
theorem tq_1224 : (.fieldLink "TickPoolsModel" 35 "TickPoolsModel" "poolWord" "J" : Cond) ∈ tables_1 := it6 (m9 (m9 (mt (mt (mt (mt (mt (mt mh))))))))
theorem tq_1225 : (.fieldLink "TickPoolsModel" 38 "TickPoolsModel" "purseWord" "J" : Cond) ∈ tables_1 := it6 (m9 (m9 (mt (mt (mt (mt (mt (mt (mt mh)))))))))
theorem tq_1226 : (.fieldLink "TickPoolsModel" 41 "TickPoolsModel" "inWord" "J" : Cond) ∈ tables_1 := it6 (m9 (m9 (mt (mt (mt (mt (mt (mt (mt (mt mh))))))))))
theorem tq_1227 : (.fieldLink "TickPoolsModel" 44 "TickPoolsModel" "outWord" "J" : Cond) ∈ tables_1 := it6 (m81 mh)
theorem tq_1228 : (.fieldLink "TickPoolsModel" 47 "TickPoolsModel" "addWord" "J" : Cond) ∈ tables_1 := it6 (m81 (mt mh))
theorem tq_1229 : (.fieldLink "TickPoolsModel" 50 "TickPoolsModel" "dropWord" "J" : Cond) ∈ tables_1 := it6 (m81 (mt (mt mh)))
theorem tq_1230 : (.fieldLink "TickPoolsModel" 53 "TickPoolsModel" "leastWord" "J" : Cond) ∈ tables_1 := it6 (m81 (mt (mt (mt mh))))
theorem tq_1231 : (.fieldLink "TickPoolsModel" 56 "TickPoolsModel" "lendWord" "J" : Cond) ∈ tables_1 := it6 (m81 (mt (mt (mt (mt mh)))))
theorem tq_1232 : (.fieldLink "TickPoolsModel" 59 "TickPoolsModel" "timesWord" "J" : Cond) ∈ tables_1 := it6 (m81 (mt (mt (mt (mt (mt mh))))))
theorem tq_1233 : (.fieldLink "TickPoolsModel" 62 "TickPoolsModel" "allWord" "J" : Cond) ∈ tables_1 := it6 (m81 (mt (mt (mt (mt (mt (mt mh)))))))
theorem tq_1234 : (.fieldLink "TickPoolsModel" 65 "TickPoolsModel" "gotWord" "J" : Cond) ∈ tables_1 := it6 (m81 (mt (mt (mt (mt (mt (mt (mt mh))))))))
theorem tq_1235 : (.fieldLink "TickPoolsModel" 172 "TickPoolsModel" "readThings" "I" : Cond) ∈ tables_1 := it6 (m81 (mt (mt (mt (mt (mt (mt (mt (mt mh)))))))))
theorem tq_1236 : (.fieldLink "TickPoolsModel" 181 "TickPoolsModel" "readPeople" "I" : Cond) ∈ tables_1 := it6 (m81 (m9 mh))
theorem tq_1237 : (.fieldLink "TickPoolsModel" 184 "TickPoolsModel" "readPools" "I" : Cond) ∈ tables_1 := it6 (m81 (m9 (mt mh)))
theorem tq_1238 : (.fieldLink "TickPoolsModel" 68 "TickPoolsModel" "readPool" "[I" : Cond) ∈ tables_1 := it6 (m81 (m9 (mt (mt mh))))
theorem tq_1239 : (.fieldLink "TickPoolsModel" 71 "TickPoolsModel" "readPurse" "[I" : Cond) ∈ tables_1 := it6 (m81 (m9 (mt (mt (mt mh)))))
theorem tq_1240 : (.fieldLink "TickPoolsModel" 326 "TickPoolsModel" "left" "J" : Cond) ∈ tables_1 := it6 (m81 (m9 (mt (mt (mt (mt mh))))))
theorem tq_1241 : (.fieldLink "TickPoolsModel" 349 "TickPoolsModel" "came" "J" : Cond) ∈ tables_1 := it6 (m81 (m9 (mt (mt (mt (mt (mt mh)))))))
theorem tq_1242 : (.fieldLink "TickPoolsModel" 352 "TickPoolsModel" "gone" "J" : Cond) ∈ tables_1 := it6 (m81 (m9 (mt (mt (mt (mt (mt (mt mh))))))))
theorem tq_1243 : (.fieldLink "TickPoolsModel" 355 "TickPoolsModel" "fees" "J" : Cond) ∈ tables_1 := it6 (m81 (m9 (mt (mt (mt (mt (mt (mt (mt mh)))))))))
theorem tq_1244 : (.fieldLink "TickPoolsModel" 362 "TickPoolsModel" "crossed" "I" : Cond) ∈ tables_1 := it6 (m81 (m9 (mt (mt (mt (mt (mt (mt (mt (mt mh))))))))))
theorem tq_1245 : (.fieldLink "TickPoolsModel" 417 "TickPoolsModel" "stepMany" "I" : Cond) ∈ tables_1 := it6 (m81 (m9 (m9 mh)))
theorem tq_1246 : (.fieldLink "TickPoolsModel" 74 "TickPoolsModel" "kind" "[I" : Cond) ∈ tables_1 := it6 (m81 (m9 (m9 (mt mh))))
theorem tq_1247 : (.fieldLink "TickPoolsModel" 77 "TickPoolsModel" "placeOf" "[I" : Cond) ∈ tables_1 := it6 (m81 (m9 (m9 (mt (mt mh)))))
theorem tq_1248 : (.fieldLink "TickPoolsModel" 80 "TickPoolsModel" "numbers" "[I" : Cond) ∈ tables_1 := it6 (m81 (m9 (m9 (mt (mt (mt mh))))))
theorem tq_1249 : (.fieldLink "TickPoolsModel" 83 "TickPoolsModel" "muchBy" "[I" : Cond) ∈ tables_1 := it6 (m81 (m9 (m9 (mt (mt (mt (mt mh)))))))
theorem tq_1250 : (.fieldLink "TickPoolsModel" 86 "TickPoolsModel" "behind" "[I" : Cond) ∈ tables_1 := it6 (m81 (m9 (m9 (mt (mt (mt (mt (mt mh))))))))
theorem tq_1251 : (.fieldLink "TickPoolsModel" 89 "TickPoolsModel" "stepWords" "[J" : Cond) ∈ tables_1 := it6 (m81 (m9 (m9 (mt (mt (mt (mt (mt (mt mh)))))))))
theorem tq_1252 : (.fieldLink "TickPoolsModel" 92 "TickPoolsModel" "open" "[I" : Cond) ∈ tables_1 := it6 (m81 (m9 (m9 (mt (mt (mt (mt (mt (mt (mt mh))))))))))
theorem tq_1253 : (.fieldLink "TickPoolsModel" 410 "TickPoolsModel" "opened" "I" : Cond) ∈ tables_1 := it6 (m81 (m9 (m9 (mt (mt (mt (mt (mt (mt (mt (mt mh)))))))))))
theorem tq_1254 : (.fieldLink "TickPoolsModel" 443 "TickPoolsModel" "who" "I" : Cond) ∈ tables_1 := it6 (m81 (m81 mh))
theorem tq_1255 : (.fieldLink "TickPoolsModel" 482 "TickPoolsModel" "doneMany" "I" : Cond) ∈ tables_1 := it6 (m81 (m81 (mt mh)))
theorem tq_1256 : (.fieldLink "TickPoolsModel" 440 "TickPoolsModel" "got" "J" : Cond) ∈ tables_1 := it6 (m81 (m81 (mt (mt mh))))
theorem tq_1257 : (.fieldLink "TickPoolsModel" 437 "TickPoolsModel" "locked" "I" : Cond) ∈ tables_1 := it6 (m81 (m81 (mt (mt (mt mh)))))
theorem tq_1258 : (.fieldLink "TickPoolsModel" 95 "TickPoolsModel" "within" "[I" : Cond) ∈ tables_1 := it6 (m81 (m81 (mt (mt (mt (mt mh))))))
theorem tq_1259 : (.fieldLink "TickPoolsModel" 98 "TickPoolsModel" "turns" "[I" : Cond) ∈ tables_1 := it6 (m81 (m81 (mt (mt (mt (mt (mt mh)))))))
theorem tq_1260 : (.fieldLink "TickPoolsModel" 101 "TickPoolsModel" "lent" "[J" : Cond) ∈ tables_1 := it6 (m81 (m81 (mt (mt (mt (mt (mt (mt mh))))))))
theorem tq_1261 : (.fieldLink "TickPoolsModel" 463 "TickPoolsModel" "deep" "I" : Cond) ∈ tables_1 := it6 (m81 (m81 (mt (mt (mt (mt (mt (mt (mt mh)))))))))
theorem tq_1262 : (.fieldLink "TickPoolsModel" 539 "TickPoolsModel" "best" "J" : Cond) ∈ tables_1 := it6 (m81 (m81 (mt (mt (mt (mt (mt (mt (mt (mt mh))))))))))
theorem tq_1263 : (.fieldLink "TickPoolsModel" 542 "TickPoolsModel" "bestRow" "I" : Cond) ∈ tables_1 := it6 (m81 (m81 (m9 mh)))
theorem tq_1264 : (.fieldLink "TickPoolsModel" 555 "TickPoolsModel" "partsAll" "J" : Cond) ∈ tables_1 := it6 (m81 (m81 (m9 (mt mh))))
theorem tq_1265 : (.fieldLink "TickPoolsModel" 558 "TickPoolsModel" "others" "I" : Cond) ∈ tables_1 := it6 (m81 (m81 (m9 (mt (mt mh)))))
theorem tq_1266 : (.laysFinal "TickPoolsModel" "TickPoolsModel" "rootOf" "[J" : Cond) ∈ tables_1 := it6 (m81 (m81 (m9 (mt (mt (mt mh))))))
theorem tq_1268 : (.lays "TickPoolsModel" "TickPoolsModel" "things" "I" : Cond) ∈ tables_1 := it6 (m81 (m81 (m9 (mt (mt (mt (mt (mt mh))))))))
theorem tq_1270 : (.lays "TickPoolsModel" "TickPoolsModel" "people" "I" : Cond) ∈ tables_1 := it6 (m81 (m81 (m9 (mt (mt (mt (mt (mt (mt (mt mh))))))))))
theorem tq_1272 : (.lays "TickPoolsModel" "TickPoolsModel" "pools" "I" : Cond) ∈ tables_1 := it6 (m81 (m81 (m9 (m9 mh))))
theorem tq_1274 : (.laysFinal "TickPoolsModel" "TickPoolsModel" "told" "[I" : Cond) ∈ tables_1 := it6 (m81 (m81 (m9 (m9 (mt (mt mh))))))
theorem tq_1276 : (.laysFinal "TickPoolsModel" "TickPoolsModel" "now" "[J" : Cond) ∈ tables_1 := it6 (m81 (m81 (m9 (m9 (mt (mt (mt (mt mh))))))))
theorem tq_1278 : (.laysFinal "TickPoolsModel" "TickPoolsModel" "was" "[J" : Cond) ∈ tables_1 := it6 (m81 (m81 (m9 (m9 (mt (mt (mt (mt (mt (mt mh))))))))))
theorem tq_1280 : (.laysFinal "TickPoolsModel" "TickPoolsModel" "tape" "[B" : Cond) ∈ tables_1 := it6 (m81 (m81 (m9 (m9 (mt (mt (mt (mt (mt (mt (mt (mt mh))))))))))))
theorem tq_1282 : (.lays "TickPoolsModel" "TickPoolsModel" "taped" "I" : Cond) ∈ tables_1 := it6 (m81 (m81 (m81 (mt mh))))
theorem tq_1284 : (.lays "TickPoolsModel" "TickPoolsModel" "at" "I" : Cond) ∈ tables_1 := it6 (m81 (m81 (m81 (mt (mt (mt mh))))))
theorem tq_1286 : (.lays "TickPoolsModel" "TickPoolsModel" "wrong" "I" : Cond) ∈ tables_1 := it6 (m81 (m81 (m81 (mt (mt (mt (mt (mt mh))))))))
theorem tq_1288 : (.lays "TickPoolsModel" "TickPoolsModel" "number" "I" : Cond) ∈ tables_1 := it6 (m81 (m81 (m81 (mt (mt (mt (mt (mt (mt (mt mh))))))))))
theorem tq_1290 : (.laysFinal "TickPoolsModel" "TickPoolsModel" "marketWord" "J" : Cond) ∈ tables_1 := it6 (m81 (m81 (m81 (m9 mh))))
theorem tq_1292 : (.laysFinal "TickPoolsModel" "TickPoolsModel" "poolWord" "J" : Cond) ∈ tables_1 := it6 (m81 (m81 (m81 (m9 (mt (mt mh))))))
theorem tq_1294 : (.laysFinal "TickPoolsModel" "TickPoolsModel" "purseWord" "J" : Cond) ∈ tables_1 := it6 (m81 (m81 (m81 (m9 (mt (mt (mt (mt mh))))))))
theorem tq_1296 : (.laysFinal "TickPoolsModel" "TickPoolsModel" "inWord" "J" : Cond) ∈ tables_1 := it6 (m81 (m81 (m81 (m9 (mt (mt (mt (mt (mt (mt mh))))))))))
theorem tq_1298 : (.laysFinal "TickPoolsModel" "TickPoolsModel" "outWord" "J" : Cond) ∈ tables_1 := it6 (m81 (m81 (m81 (m9 (mt (mt (mt (mt (mt (mt (mt (mt mh))))))))))))
theorem tq_1300 : (.laysFinal "TickPoolsModel" "TickPoolsModel" "addWord" "J" : Cond) ∈ tables_1 := it6 (m81 (m81 (m81 (m9 (m9 (mt mh))))))
theorem tq_1302 : (.laysFinal "TickPoolsModel" "TickPoolsModel" "dropWord" "J" : Cond) ∈ tables_1 := it6 (m81 (m81 (m81 (m9 (m9 (mt (mt (mt mh))))))))
theorem tq_1304 : (.laysFinal "TickPoolsModel" "TickPoolsModel" "leastWord" "J" : Cond) ∈ tables_1 := it6 (m81 (m81 (m81 (m9 (m9 (mt (mt (mt (mt (mt mh))))))))))
theorem tq_1306 : (.laysFinal "TickPoolsModel" "TickPoolsModel" "lendWord" "J" : Cond) ∈ tables_1 := it6 (m81 (m81 (m81 (m9 (m9 (mt (mt (mt (mt (mt (mt (mt mh))))))))))))
theorem tq_1308 : (.laysFinal "TickPoolsModel" "TickPoolsModel" "timesWord" "J" : Cond) ∈ tables_1 := it6 (m81 (m81 (m81 (m81 mh))))
theorem tq_1310 : (.laysFinal "TickPoolsModel" "TickPoolsModel" "allWord" "J" : Cond) ∈ tables_1 := it6 (m81 (m81 (m81 (m81 (mt (mt mh))))))
theorem tq_1312 : (.laysFinal "TickPoolsModel" "TickPoolsModel" "gotWord" "J" : Cond) ∈ tables_1 := it6 (m81 (m81 (m81 (m81 (mt (mt (mt (mt mh))))))))
theorem tq_1314 : (.lays "TickPoolsModel" "TickPoolsModel" "readThings" "I" : Cond) ∈ tables_1 := it6 (m81 (m81 (m81 (m81 (mt (mt (mt (mt (mt (mt mh))))))))))
theorem tq_1316 : (.lays "TickPoolsModel" "TickPoolsModel" "readPeople" "I" : Cond) ∈ tables_1 := it6 (m81 (m81 (m81 (m81 (mt (mt (mt (mt (mt (mt (mt (mt mh))))))))))))
theorem tq_1318 : (.lays "TickPoolsModel" "TickPoolsModel" "readPools" "I" : Cond) ∈ tables_1 := it6 (m81 (m81 (m81 (m81 (m9 (mt mh))))))
theorem tq_1320 : (.laysFinal "TickPoolsModel" "TickPoolsModel" "readPool" "[I" : Cond) ∈ tables_1 := it6 (m81 (m81 (m81 (m81 (m9 (mt (mt (mt mh))))))))
theorem tq_1322 : (.laysFinal "TickPoolsModel" "TickPoolsModel" "readPurse" "[I" : Cond) ∈ tables_1 := it6 (m81 (m81 (m81 (m81 (m9 (mt (mt (mt (mt (mt mh))))))))))
theorem tq_1324 : (.lays "TickPoolsModel" "TickPoolsModel" "left" "J" : Cond) ∈ tables_1 := it6 (m81 (m81 (m81 (m81 (m9 (mt (mt (mt (mt (mt (mt (mt mh))))))))))))
theorem tq_1326 : (.lays "TickPoolsModel" "TickPoolsModel" "came" "J" : Cond) ∈ tables_1 := it6 (m81 (m81 (m81 (m81 (m9 (m9 mh))))))
theorem tq_1328 : (.lays "TickPoolsModel" "TickPoolsModel" "gone" "J" : Cond) ∈ tables_1 := it6 (m81 (m81 (m81 (m81 (m9 (m9 (mt (mt mh))))))))
theorem tq_1330 : (.lays "TickPoolsModel" "TickPoolsModel" "fees" "J" : Cond) ∈ tables_1 := it6 (m81 (m81 (m81 (m81 (m9 (m9 (mt (mt (mt (mt mh))))))))))
theorem tq_1332 : (.lays "TickPoolsModel" "TickPoolsModel" "crossed" "I" : Cond) ∈ tables_1 := it6 (m81 (m81 (m81 (m81 (m9 (m9 (mt (mt (mt (mt (mt (mt mh))))))))))))
theorem tq_1334 : (.lays "TickPoolsModel" "TickPoolsModel" "stepMany" "I" : Cond) ∈ tables_1 := it6 (m81 (m81 (m81 (m81 (m9 (m9 (mt (mt (mt (mt (mt (mt (mt (mt mh))))))))))))))
theorem tq_1336 : (.laysFinal "TickPoolsModel" "TickPoolsModel" "kind" "[I" : Cond) ∈ tables_1 := it6 (m81 (m81 (m81 (m81 (m81 (mt mh))))))
theorem tq_1338 : (.laysFinal "TickPoolsModel" "TickPoolsModel" "placeOf" "[I" : Cond) ∈ tables_1 := it6 (m81 (m81 (m81 (m81 (m81 (mt (mt (mt mh))))))))
theorem tq_1340 : (.laysFinal "TickPoolsModel" "TickPoolsModel" "numbers" "[I" : Cond) ∈ tables_1 := it6 (m81 (m81 (m81 (m81 (m81 (mt (mt (mt (mt (mt mh))))))))))
theorem tq_1342 : (.laysFinal "TickPoolsModel" "TickPoolsModel" "muchBy" "[I" : Cond) ∈ tables_1 := it6 (m81 (m81 (m81 (m81 (m81 (mt (mt (mt (mt (mt (mt (mt mh))))))))))))
theorem tq_1344 : (.laysFinal "TickPoolsModel" "TickPoolsModel" "behind" "[I" : Cond) ∈ tables_1 := it6 (m81 (m81 (m81 (m81 (m81 (m9 mh))))))
theorem tq_1346 : (.laysFinal "TickPoolsModel" "TickPoolsModel" "stepWords" "[J" : Cond) ∈ tables_1 := it6 (m81 (m81 (m81 (m81 (m81 (m9 (mt (mt mh))))))))
theorem tq_1348 : (.laysFinal "TickPoolsModel" "TickPoolsModel" "open" "[I" : Cond) ∈ tables_1 := it6 (m81 (m81 (m81 (m81 (m81 (m9 (mt (mt (mt (mt mh))))))))))
theorem tq_1350 : (.lays "TickPoolsModel" "TickPoolsModel" "opened" "I" : Cond) ∈ tables_1 := it6 (m81 (m81 (m81 (m81 (m81 (m9 (mt (mt (mt (mt (mt (mt mh))))))))))))
theorem tq_1352 : (.lays "TickPoolsModel" "TickPoolsModel" "who" "I" : Cond) ∈ tables_1 := it6 (m81 (m81 (m81 (m81 (m81 (m9 (mt (mt (mt (mt (mt (mt (mt (mt mh))))))))))))))
theorem tq_1354 : (.lays "TickPoolsModel" "TickPoolsModel" "doneMany" "I" : Cond) ∈ tables_1 := it6 (m81 (m81 (m81 (m81 (m81 (m9 (m9 (mt mh))))))))
theorem tq_1356 : (.lays "TickPoolsModel" "TickPoolsModel" "got" "J" : Cond) ∈ tables_1 := it6 (m81 (m81 (m81 (m81 (m81 (m9 (m9 (mt (mt (mt mh))))))))))
theorem tq_1358 : (.lays "TickPoolsModel" "TickPoolsModel" "locked" "I" : Cond) ∈ tables_1 := it6 (m81 (m81 (m81 (m81 (m81 (m9 (m9 (mt (mt (mt (mt (mt mh))))))))))))
theorem tq_1360 : (.laysFinal "TickPoolsModel" "TickPoolsModel" "within" "[I" : Cond) ∈ tables_1 := it6 (m81 (m81 (m81 (m81 (m81 (m9 (m9 (mt (mt (mt (mt (mt (mt (mt mh))))))))))))))
theorem tq_1362 : (.laysFinal "TickPoolsModel" "TickPoolsModel" "turns" "[I" : Cond) ∈ tables_1 := it6 (m81 (m81 (m81 (m81 (m81 (m81 mh))))))
theorem tq_1364 : (.laysFinal "TickPoolsModel" "TickPoolsModel" "lent" "[J" : Cond) ∈ tables_1 := it6 (m81 (m81 (m81 (m81 (m81 (m81 (mt (mt mh))))))))
theorem tq_1366 : (.lays "TickPoolsModel" "TickPoolsModel" "deep" "I" : Cond) ∈ tables_1 := it6 (m81 (m81 (m81 (m81 (m81 (m81 (mt (mt (mt (mt mh))))))))))
theorem tq_1368 : (.lays "TickPoolsModel" "TickPoolsModel" "best" "J" : Cond) ∈ tables_1 := it6 (m81 (m81 (m81 (m81 (m81 (m81 (mt (mt (mt (mt (mt (mt mh))))))))))))
theorem tq_1370 : (.lays "TickPoolsModel" "TickPoolsModel" "bestRow" "I" : Cond) ∈ tables_1 := it6 (m81 (m81 (m81 (m81 (m81 (m81 (mt (mt (mt (mt (mt (mt (mt (mt mh))))))))))))))
theorem tq_1372 : (.lays "TickPoolsModel" "TickPoolsModel" "partsAll" "J" : Cond) ∈ tables_1 := it6 (m81 (m81 (m81 (m81 (m81 (m81 (m9 (mt mh))))))))
theorem tq_1374 : (.lays "TickPoolsModel" "TickPoolsModel" "others" "I" : Cond) ∈ tables_1 := it6 (m81 (m81 (m81 (m81 (m81 (m81 (m9 (mt (mt (mt mh))))))))))
theorem tq_1377 : (.methodLink "TickPoolsLaw" 17 yX12_feed : Cond) ∈ tables_1 := it6 (m81 (m81 (m81 (m81 (m81 (m81 (m9 (mt (mt (mt (mt (mt (mt mh)))))))))))))
theorem tq_1378 : (.instanceMethod yX12_feed : Cond) ∈ tables_1 := it6 (m81 (m81 (m81 (m81 (m81 (m81 (m9 (mt (mt (mt (mt (mt (mt (mt mh))))))))))))))
theorem tq_1379 : (.selects "TickPoolsModel" yX12_feed yX12_feed : Cond) ∈ tables_1 := it6 (m81 (m81 (m81 (m81 (m81 (m81 (m9 (mt (mt (mt (mt (mt (mt (mt (mt mh)))))))))))))))
theorem tq_1380 : ((Jvm.Cond.code ({ cls := "TickPoolsModel", name := "feed", desc := "(IIIII)I" } : Jvm.MethodName) prog_14_method_23_code (8 : Nat) (Option.some Jvm.ClassFile.FieldType.int)) : Cond) ∈ tables_1 := it6 (m81 (m81 (m81 (m81 (m81 (m81 (m9 (m9 mh))))))))
theorem tq_1381 : (.methodLink "TickPoolsLaw" 22 yX12_end : Cond) ∈ tables_1 := it6 (m81 (m81 (m81 (m81 (m81 (m81 (m9 (m9 (mt mh)))))))))
theorem tq_1382 : (.instanceMethod yX12_end : Cond) ∈ tables_1 := it6 (m81 (m81 (m81 (m81 (m81 (m81 (m9 (m9 (mt (mt mh))))))))))
theorem tq_1383 : (.selects "TickPoolsModel" yX12_end yX12_end : Cond) ∈ tables_1 := it6 (m81 (m81 (m81 (m81 (m81 (m81 (m9 (m9 (mt (mt (mt mh)))))))))))
theorem tq_1384 : ((Jvm.Cond.code ({ cls := "TickPoolsModel", name := "end", desc := "(I)I" } : Jvm.MethodName) prog_14_method_24_code (2 : Nat) (Option.some Jvm.ClassFile.FieldType.int)) : Cond) ∈ tables_1 := it6 (m81 (m81 (m81 (m81 (m81 (m81 (m9 (m9 (mt (mt (mt (mt mh))))))))))))
theorem tq_1385 : (.methodLink "TickPoolsModel" 137 yX12_isIn : Cond) ∈ tables_1 := it6 (m81 (m81 (m81 (m81 (m81 (m81 (m9 (m9 (mt (mt (mt (mt (mt mh)))))))))))))
theorem tq_1386 : (.static yX12_isIn : Cond) ∈ tables_1 := it6 (m81 (m81 (m81 (m81 (m81 (m81 (m9 (m9 (mt (mt (mt (mt (mt (mt mh))))))))))))))
theorem tq_1387 : ((Jvm.Cond.code ({ cls := "TickPoolsModel", name := "isIn", desc := "(JJJ)Z" } : Jvm.MethodName) prog_14_method_2_code (6 : Nat) (Option.some Jvm.ClassFile.FieldType.boolean)) : Cond) ∈ tables_1 := it6 (m81 (m81 (m81 (m81 (m81 (m81 (m9 (m9 (mt (mt (mt (mt (mt (mt (mt mh)))))))))))))))
theorem tq_1388 : (.methodLink "TickPoolsLaw" 27 yX12_market : Cond) ∈ tables_1 := it6 (m81 (m81 (m81 (m81 (m81 (m81 (m9 (m9 (mt (mt (mt (mt (mt (mt (mt (mt mh))))))))))))))))
theorem tq_1389 : (.instanceMethod yX12_market : Cond) ∈ tables_1 := it6 (m81 (m81 (m81 (m81 (m81 (m81 (m81 mh)))))))
theorem tq_1390 : (.selects "TickPoolsModel" yX12_market yX12_market : Cond) ∈ tables_1 := it6 (m81 (m81 (m81 (m81 (m81 (m81 (m81 (mt mh))))))))
theorem tq_1391 : ((Jvm.Cond.code ({ cls := "TickPoolsModel", name := "market", desc := "()I" } : Jvm.MethodName) prog_14_method_41_code (2 : Nat) (Option.some Jvm.ClassFile.FieldType.int)) : Cond) ∈ tables_1 := it6 (m81 (m81 (m81 (m81 (m81 (m81 (m81 (mt (mt mh)))))))))
theorem tq_1392 : (.methodLink "TickPoolsModel" 216 yX12_readsAll : Cond) ∈ tables_1 := it6 (m81 (m81 (m81 (m81 (m81 (m81 (m81 (mt (mt (mt mh))))))))))
theorem tq_1393 : (.privateMethod yX12_readsAll : Cond) ∈ tables_1 := it6 (m81 (m81 (m81 (m81 (m81 (m81 (m81 (mt (mt (mt (mt mh)))))))))))
theorem tq_1394 : (.instanceMethod yX12_readsAll : Cond) ∈ tables_1 := it6 (m81 (m81 (m81 (m81 (m81 (m81 (m81 (mt (mt (mt (mt (mt mh))))))))))))
theorem tq_1395 : ((Jvm.Cond.code ({ cls := "TickPoolsModel", name := "readsAll", desc := "()Z" } : Jvm.MethodName) prog_14_method_39_code (2 : Nat) (Option.some Jvm.ClassFile.FieldType.boolean)) : Cond) ∈ tables_1 := it6 (m81 (m81 (m81 (m81 (m81 (m81 (m81 (mt (mt (mt (mt (mt (mt mh)))))))))))))
theorem tq_1396 : (.methodLink "TickPoolsModel" 202 yX12_readsClause : Cond) ∈ tables_1 := it6 (m81 (m81 (m81 (m81 (m81 (m81 (m81 (mt (mt (mt (mt (mt (mt (mt mh))))))))))))))
theorem tq_1397 : (.privateMethod yX12_readsClause : Cond) ∈ tables_1 := it6 (m81 (m81 (m81 (m81 (m81 (m81 (m81 (mt (mt (mt (mt (mt (mt (mt (mt mh)))))))))))))))
theorem tq_1398 : (.instanceMethod yX12_readsClause : Cond) ∈ tables_1 := it6 (m81 (m81 (m81 (m81 (m81 (m81 (m81 (m9 mh))))))))
theorem tq_1399 : ((Jvm.Cond.code ({ cls := "TickPoolsModel", name := "readsClause", desc := "(I)Z" } : Jvm.MethodName) prog_14_method_38_code (5 : Nat) (Option.some Jvm.ClassFile.FieldType.boolean)) : Cond) ∈ tables_1 := it6 (m81 (m81 (m81 (m81 (m81 (m81 (m81 (m9 (mt mh)))))))))
theorem tq_1400 : (.methodLink "TickPoolsModel" 188 yX12_wordHere : Cond) ∈ tables_1 := it6 (m81 (m81 (m81 (m81 (m81 (m81 (m81 (m9 (mt (mt mh))))))))))
theorem tq_1401 : (.privateMethod yX12_wordHere : Cond) ∈ tables_1 := it6 (m81 (m81 (m81 (m81 (m81 (m81 (m81 (m9 (mt (mt (mt mh)))))))))))
theorem tq_1402 : (.instanceMethod yX12_wordHere : Cond) ∈ tables_1 := it6 (m81 (m81 (m81 (m81 (m81 (m81 (m81 (m9 (mt (mt (mt (mt mh))))))))))))
theorem tq_1403 : ((Jvm.Cond.code ({ cls := "TickPoolsModel", name := "wordHere", desc := "()J" } : Jvm.MethodName) prog_14_method_30_code (4 : Nat) (Option.some Jvm.ClassFile.FieldType.long)) : Cond) ∈ tables_1 := it6 (m81 (m81 (m81 (m81 (m81 (m81 (m81 (m9 (mt (mt (mt (mt (mt mh)))))))))))))
theorem tq_1404 : (.methodLink "TickPoolsModel" 151 yX12_next : Cond) ∈ tables_1 := it6 (m81 (m81 (m81 (m81 (m81 (m81 (m81 (m9 (mt (mt (mt (mt (mt (mt mh))))))))))))))
theorem tq_1405 : (.privateMethod yX12_next : Cond) ∈ tables_1 := it6 (m81 (m81 (m81 (m81 (m81 (m81 (m81 (m9 (mt (mt (mt (mt (mt (mt (mt mh)))))))))))))))
theorem tq_1406 : (.instanceMethod yX12_next : Cond) ∈ tables_1 := it6 (m81 (m81 (m81 (m81 (m81 (m81 (m81 (m9 (mt (mt (mt (mt (mt (mt (mt (mt mh))))))))))))))))
theorem tq_1407 : ((Jvm.Cond.code ({ cls := "TickPoolsModel", name := "next", desc := "()I" } : Jvm.MethodName) prog_14_method_27_code (1 : Nat) (Option.some Jvm.ClassFile.FieldType.int)) : Cond) ∈ tables_1 := it6 (m81 (m81 (m81 (m81 (m81 (m81 (m81 (m9 (m9 mh)))))))))
theorem tq_1408 : (.methodLink "TickPoolsModel" 147 yX12_byteAt : Cond) ∈ tables_1 := it6 (m81 (m81 (m81 (m81 (m81 (m81 (m81 (m9 (m9 (mt mh))))))))))
theorem tq_1409 : (.privateMethod yX12_byteAt : Cond) ∈ tables_1 := it6 (m81 (m81 (m81 (m81 (m81 (m81 (m81 (m9 (m9 (mt (mt mh)))))))))))
theorem tq_1410 : (.instanceMethod yX12_byteAt : Cond) ∈ tables_1 := it6 (m81 (m81 (m81 (m81 (m81 (m81 (m81 (m9 (m9 (mt (mt (mt mh))))))))))))
theorem tq_1411 : ((Jvm.Cond.code ({ cls := "TickPoolsModel", name := "byteAt", desc := "(I)I" } : Jvm.MethodName) prog_14_method_26_code (2 : Nat) (Option.some Jvm.ClassFile.FieldType.int)) : Cond) ∈ tables_1 := it6 (m81 (m81 (m81 (m81 (m81 (m81 (m81 (m9 (m9 (mt (mt (mt (mt mh)))))))))))))
theorem tq_1412 : (.methodLink "TickPoolsModel" 154 yX12_isLetter : Cond) ∈ tables_1 := it6 (m81 (m81 (m81 (m81 (m81 (m81 (m81 (m9 (m9 (mt (mt (mt (mt (mt mh))))))))))))))
theorem tq_1413 : (.static yX12_isLetter : Cond) ∈ tables_1 := it6 (m81 (m81 (m81 (m81 (m81 (m81 (m81 (m9 (m9 (mt (mt (mt (mt (mt (mt mh)))))))))))))))
theorem tq_1414 : ((Jvm.Cond.code ({ cls := "TickPoolsModel", name := "isLetter", desc := "(I)Z" } : Jvm.MethodName) prog_14_method_29_code (1 : Nat) (Option.some Jvm.ClassFile.FieldType.boolean)) : Cond) ∈ tables_1 := it6 (m81 (m81 (m81 (m81 (m81 (m81 (m81 (m9 (m9 (mt (mt (mt (mt (mt (mt (mt mh))))))))))))))))
theorem tq_1415 : (.methodLink "TickPoolsModel" 165 yX12_fails : Cond) ∈ tables_1 := it6 (m81 (m81 (m81 (m81 (m81 (m81 (m81 (m9 (m9 (mt (mt (mt (mt (mt (mt (mt (mt mh)))))))))))))))))
theorem tq_1416 : (.privateMethod yX12_fails : Cond) ∈ tables_1 := it6 (m81 (m81 (m81 (m81 (m81 (m81 (m81 (m81 mh))))))))
theorem tq_1417 : (.instanceMethod yX12_fails : Cond) ∈ tables_1 := it6 (m81 (m81 (m81 (m81 (m81 (m81 (m81 (m81 (mt mh)))))))))
theorem tq_1418 : ((Jvm.Cond.code ({ cls := "TickPoolsModel", name := "fails", desc := "(II)Z" } : Jvm.MethodName) prog_14_method_25_code (3 : Nat) (Option.some Jvm.ClassFile.FieldType.boolean)) : Cond) ∈ tables_1 := it6 (m81 (m81 (m81 (m81 (m81 (m81 (m81 (m81 (mt (mt mh))))))))))
theorem tq_1419 : (.methodLink "TickPoolsModel" 192 yX12_readsMarket : Cond) ∈ tables_1 := it6 (m81 (m81 (m81 (m81 (m81 (m81 (m81 (m81 (mt (mt (mt mh)))))))))))
theorem tq_1420 : (.privateMethod yX12_readsMarket : Cond) ∈ tables_1 := it6 (m81 (m81 (m81 (m81 (m81 (m81 (m81 (m81 (mt (mt (mt (mt mh))))))))))))
theorem tq_1421 : (.instanceMethod yX12_readsMarket : Cond) ∈ tables_1 := it6 (m81 (m81 (m81 (m81 (m81 (m81 (m81 (m81 (mt (mt (mt (mt (mt mh)))))))))))))
theorem tq_1422 : ((Jvm.Cond.code ({ cls := "TickPoolsModel", name := "readsMarket", desc := "(I)Z" } : Jvm.MethodName) prog_14_method_35_code (3 : Nat) (Option.some Jvm.ClassFile.FieldType.boolean)) : Cond) ∈ tables_1 := it6 (m81 (m81 (m81 (m81 (m81 (m81 (m81 (m81 (mt (mt (mt (mt (mt (mt mh))))))))))))))
theorem tq_1423 : (.methodLink "TickPoolsModel" 175 yX12_passWord : Cond) ∈ tables_1 := it6 (m81 (m81 (m81 (m81 (m81 (m81 (m81 (m81 (mt (mt (mt (mt (mt (mt (mt mh)))))))))))))))
theorem tq_1424 : (.privateMethod yX12_passWord : Cond) ∈ tables_1 := it6 (m81 (m81 (m81 (m81 (m81 (m81 (m81 (m81 (mt (mt (mt (mt (mt (mt (mt (mt mh))))))))))))))))
theorem tq_1425 : (.instanceMethod yX12_passWord : Cond) ∈ tables_1 := it6 (m81 (m81 (m81 (m81 (m81 (m81 (m81 (m81 (m9 mh)))))))))
theorem tq_1426 : ((Jvm.Cond.code ({ cls := "TickPoolsModel", name := "passWord", desc := "()V" } : Jvm.MethodName) prog_14_method_32_code (1 : Nat) (Option.none : Option Jvm.ClassFile.FieldType)) : Cond) ∈ tables_1 := it6 (m81 (m81 (m81 (m81 (m81 (m81 (m81 (m81 (m9 (mt mh))))))))))
theorem tq_1427 : (.methodLink "TickPoolsModel" 178 yX12_reads : Cond) ∈ tables_1 := it6 (m81 (m81 (m81 (m81 (m81 (m81 (m81 (m81 (m9 (mt (mt mh)))))))))))
theorem tq_1428 : (.privateMethod yX12_reads : Cond) ∈ tables_1 := it6 (m81 (m81 (m81 (m81 (m81 (m81 (m81 (m81 (m9 (mt (mt (mt mh))))))))))))
theorem tq_1429 : (.instanceMethod yX12_reads : Cond) ∈ tables_1 := it6 (m81 (m81 (m81 (m81 (m81 (m81 (m81 (m81 (m9 (mt (mt (mt (mt mh)))))))))))))
theorem tq_1430 : ((Jvm.Cond.code ({ cls := "TickPoolsModel", name := "reads", desc := "(II)Z" } : Jvm.MethodName) prog_14_method_33_code (4 : Nat) (Option.some Jvm.ClassFile.FieldType.boolean)) : Cond) ∈ tables_1 := it6 (m81 (m81 (m81 (m81 (m81 (m81 (m81 (m81 (m9 (mt (mt (mt (mt (mt mh))))))))))))))
theorem tq_1431 : (.methodLink "TickPoolsModel" 162 yX12_isDigit : Cond) ∈ tables_1 := it6 (m81 (m81 (m81 (m81 (m81 (m81 (m81 (m81 (m9 (mt (mt (mt (mt (mt (mt mh)))))))))))))))
theorem tq_1432 : (.static yX12_isDigit : Cond) ∈ tables_1 := it6 (m81 (m81 (m81 (m81 (m81 (m81 (m81 (m81 (m9 (mt (mt (mt (mt (mt (mt (mt mh))))))))))))))))
theorem tq_1433 : ((Jvm.Cond.code ({ cls := "TickPoolsModel", name := "isDigit", desc := "(I)Z" } : Jvm.MethodName) prog_14_method_28_code (1 : Nat) (Option.some Jvm.ClassFile.FieldType.boolean)) : Cond) ∈ tables_1 := it6 (m81 (m81 (m81 (m81 (m81 (m81 (m81 (m81 (m9 (mt (mt (mt (mt (mt (mt (mt (mt mh)))))))))))))))))
theorem tq_1434 : (.methodLink "TickPoolsModel" 195 yX12_readsPool : Cond) ∈ tables_1 := it6 (m81 (m81 (m81 (m81 (m81 (m81 (m81 (m81 (m9 (m9 mh))))))))))
theorem tq_1435 : (.privateMethod yX12_readsPool : Cond) ∈ tables_1 := it6 (m81 (m81 (m81 (m81 (m81 (m81 (m81 (m81 (m9 (m9 (mt mh)))))))))))
theorem tq_1436 : (.instanceMethod yX12_readsPool : Cond) ∈ tables_1 := it6 (m81 (m81 (m81 (m81 (m81 (m81 (m81 (m81 (m9 (m9 (mt (mt mh))))))))))))
theorem tq_1437 : ((Jvm.Cond.code ({ cls := "TickPoolsModel", name := "readsPool", desc := "(I)Z" } : Jvm.MethodName) prog_14_method_36_code (6 : Nat) (Option.some Jvm.ClassFile.FieldType.boolean)) : Cond) ∈ tables_1 := it6 (m81 (m81 (m81 (m81 (m81 (m81 (m81 (m81 (m9 (m9 (mt (mt (mt mh)))))))))))))
theorem tq_1438 : (.methodLink "TickPoolsModel" 198 yX12_readsPurse : Cond) ∈ tables_1 := it6 (m81 (m81 (m81 (m81 (m81 (m81 (m81 (m81 (m9 (m9 (mt (mt (mt (mt mh))))))))))))))
theorem tq_1439 : (.privateMethod yX12_readsPurse : Cond) ∈ tables_1 := it6 (m81 (m81 (m81 (m81 (m81 (m81 (m81 (m81 (m9 (m9 (mt (mt (mt (mt (mt mh)))))))))))))))
theorem tq_1440 : (.instanceMethod yX12_readsPurse : Cond) ∈ tables_1 := it7 mh
theorem tq_1441 : ((Jvm.Cond.code ({ cls := "TickPoolsModel", name := "readsPurse", desc := "()Z" } : Jvm.MethodName) prog_14_method_37_code (3 : Nat) (Option.some Jvm.ClassFile.FieldType.boolean)) : Cond) ∈ tables_1 := it7 (mt mh)
theorem tq_1442 : (.constant "TickPoolsModel" 187 9999999 : Cond) ∈ tables_1 := it7 (mt (mt mh))
theorem tq_1443 : (.methodLink "TickPoolsModel" 205 yX12_takesSign : Cond) ∈ tables_1 := it7 (mt (mt (mt mh)))
theorem tq_1444 : (.privateMethod yX12_takesSign : Cond) ∈ tables_1 := it7 (mt (mt (mt (mt mh))))
theorem tq_1445 : (.instanceMethod yX12_takesSign : Cond) ∈ tables_1 := it7 (mt (mt (mt (mt (mt mh)))))
theorem tq_1446 : ((Jvm.Cond.code ({ cls := "TickPoolsModel", name := "takesSign", desc := "(I)Z" } : Jvm.MethodName) prog_14_method_34_code (2 : Nat) (Option.some Jvm.ClassFile.FieldType.boolean)) : Cond) ∈ tables_1 := it7 (mt (mt (mt (mt (mt (mt mh))))))
theorem tq_1447 : (.methodLink "TickPoolsModel" 219 yX12_begins : Cond) ∈ tables_1 := it7 (mt (mt (mt (mt (mt (mt (mt mh)))))))
theorem tq_1448 : (.privateMethod yX12_begins : Cond) ∈ tables_1 := it7 (mt (mt (mt (mt (mt (mt (mt (mt mh))))))))
theorem tq_1449 : (.instanceMethod yX12_begins : Cond) ∈ tables_1 := it7 (m9 mh)
theorem tq_1450 : ((Jvm.Cond.code ({ cls := "TickPoolsModel", name := "begins", desc := "()V" } : Jvm.MethodName) prog_14_method_40_code (4 : Nat) (Option.none : Option Jvm.ClassFile.FieldType)) : Cond) ∈ tables_1 := it7 (m9 (mt mh))
theorem tq_1451 : (.methodLink "TickPoolsModel" 208 yX12_setPool : Cond) ∈ tables_1 := it7 (m9 (mt (mt mh)))
theorem tq_1452 : (.privateMethod yX12_setPool : Cond) ∈ tables_1 := it7 (m9 (mt (mt (mt mh))))
theorem tq_1453 : (.instanceMethod yX12_setPool : Cond) ∈ tables_1 := it7 (m9 (mt (mt (mt (mt mh)))))
theorem tq_1454 : ((Jvm.Cond.code ({ cls := "TickPoolsModel", name := "setPool", desc := "(IIJ)V" } : Jvm.MethodName) prog_14_method_10_code (5 : Nat) (Option.none : Option Jvm.ClassFile.FieldType)) : Cond) ∈ tables_1 := it7 (m9 (mt (mt (mt (mt (mt mh))))))
theorem tq_1455 : (.methodLink "TickPoolsModel" 212 yX12_zoneOf : Cond) ∈ tables_1 := it7 (m9 (mt (mt (mt (mt (mt (mt mh)))))))
theorem tq_1456 : (.privateMethod yX12_zoneOf : Cond) ∈ tables_1 := it7 (m9 (mt (mt (mt (mt (mt (mt (mt mh))))))))
theorem tq_1457 : (.instanceMethod yX12_zoneOf : Cond) ∈ tables_1 := it7 (m9 (mt (mt (mt (mt (mt (mt (mt (mt mh)))))))))
theorem tq_1458 : ((Jvm.Cond.code ({ cls := "TickPoolsModel", name := "zoneOf", desc := "(J)I" } : Jvm.MethodName) prog_14_method_5_code (4 : Nat) (Option.some Jvm.ClassFile.FieldType.int)) : Cond) ∈ tables_1 := it7 (m9 (m9 mh))
theorem tq_1459 : (.methodLink "TickPoolsLaw" 57 yX12_add : Cond) ∈ tables_1 := it7 (m9 (m9 (mt mh)))
theorem tq_1460 : (.instanceMethod yX12_add : Cond) ∈ tables_1 := it7 (m9 (m9 (mt (mt mh))))
theorem tq_1461 : (.selects "TickPoolsModel" yX12_add yX12_add : Cond) ∈ tables_1 := it7 (m9 (m9 (mt (mt (mt mh)))))
theorem tq_1462 : ((Jvm.Cond.code ({ cls := "TickPoolsModel", name := "add", desc := "(IIIIII)I" } : Jvm.MethodName) prog_14_method_55_code (7 : Nat) (Option.some Jvm.ClassFile.FieldType.int)) : Cond) ∈ tables_1 := it7 (m9 (m9 (mt (mt (mt (mt mh))))))
theorem tq_1463 : (.methodLink "TickPoolsModel" 303 yX12_adds : Cond) ∈ tables_1 := it7 (m9 (m9 (mt (mt (mt (mt (mt mh)))))))
theorem tq_1464 : (.privateMethod yX12_adds : Cond) ∈ tables_1 := it7 (m9 (m9 (mt (mt (mt (mt (mt (mt mh))))))))
theorem tq_1465 : (.instanceMethod yX12_adds : Cond) ∈ tables_1 := it7 (m9 (m9 (mt (mt (mt (mt (mt (mt (mt mh)))))))))
theorem tq_1466 : ((Jvm.Cond.code ({ cls := "TickPoolsModel", name := "adds", desc := "(IIIIII)I" } : Jvm.MethodName) prog_14_method_54_code (9 : Nat) (Option.some Jvm.ClassFile.FieldType.int)) : Cond) ∈ tables_1 := it7 (m9 (m9 (mt (mt (mt (mt (mt (mt (mt (mt mh))))))))))
theorem tq_1467 : (.methodLink "TickPoolsModel" 281 yX12_isPerson : Cond) ∈ tables_1 := it7 (m81 mh)
theorem tq_1468 : (.privateMethod yX12_isPerson : Cond) ∈ tables_1 := it7 (m81 (mt mh))
theorem tq_1469 : (.instanceMethod yX12_isPerson : Cond) ∈ tables_1 := it7 (m81 (mt (mt mh)))
theorem tq_1470 : ((Jvm.Cond.code ({ cls := "TickPoolsModel", name := "isPerson", desc := "(I)Z" } : Jvm.MethodName) prog_14_method_20_code (2 : Nat) (Option.some Jvm.ClassFile.FieldType.boolean)) : Cond) ∈ tables_1 := it7 (m81 (mt (mt (mt mh))))
theorem tq_1471 : (.methodLink "TickPoolsModel" 284 yX12_isPool : Cond) ∈ tables_1 := it7 (m81 (mt (mt (mt (mt mh)))))
theorem tq_1472 : (.privateMethod yX12_isPool : Cond) ∈ tables_1 := it7 (m81 (mt (mt (mt (mt (mt mh))))))
theorem tq_1473 : (.instanceMethod yX12_isPool : Cond) ∈ tables_1 := it7 (m81 (mt (mt (mt (mt (mt (mt mh)))))))
theorem tq_1474 : ((Jvm.Cond.code ({ cls := "TickPoolsModel", name := "isPool", desc := "(I)Z" } : Jvm.MethodName) prog_14_method_19_code (2 : Nat) (Option.some Jvm.ClassFile.FieldType.boolean)) : Cond) ∈ tables_1 := it7 (m81 (mt (mt (mt (mt (mt (mt (mt mh))))))))
theorem tq_1475 : (.methodLink "TickPoolsModel" 287 yX12_areTicks : Cond) ∈ tables_1 := it7 (m81 (mt (mt (mt (mt (mt (mt (mt (mt mh)))))))))
theorem tq_1476 : (.privateMethod yX12_areTicks : Cond) ∈ tables_1 := it7 (m81 (m9 mh))
theorem tq_1477 : (.instanceMethod yX12_areTicks : Cond) ∈ tables_1 := it7 (m81 (m9 (mt mh)))
theorem tq_1478 : ((Jvm.Cond.code ({ cls := "TickPoolsModel", name := "areTicks", desc := "(III)Z" } : Jvm.MethodName) prog_14_method_53_code (5 : Nat) (Option.some Jvm.ClassFile.FieldType.boolean)) : Cond) ∈ tables_1 := it7 (m81 (m9 (mt (mt mh))))
theorem tq_1479 : (.constantLong "TickPoolsModel" 279 40 : Cond) ∈ tables_1 := it7 (m81 (m9 (mt (mt (mt mh)))))
theorem tq_1480 : (.constantLong "TickPoolsModel" 290 2 : Cond) ∈ tables_1 := it7 (m81 (m9 (mt (mt (mt (mt mh))))))
theorem tq_1481 : (.constantLong "TickPoolsModel" 292 99999 : Cond) ∈ tables_1 := it7 (m81 (m9 (mt (mt (mt (mt (mt mh)))))))
theorem tq_1482 : (.methodLink "TickPoolsModel" 294 yX12_stakeOf : Cond) ∈ tables_1 := it7 (m81 (m9 (mt (mt (mt (mt (mt (mt mh))))))))
theorem tq_1483 : (.privateMethod yX12_stakeOf : Cond) ∈ tables_1 := it7 (m81 (m9 (mt (mt (mt (mt (mt (mt (mt mh)))))))))
theorem tq_1484 : (.instanceMethod yX12_stakeOf : Cond) ∈ tables_1 := it7 (m81 (m9 (mt (mt (mt (mt (mt (mt (mt (mt mh))))))))))
theorem tq_1485 : ((Jvm.Cond.code ({ cls := "TickPoolsModel", name := "stakeOf", desc := "(IIIII)I" } : Jvm.MethodName) prog_14_method_52_code (7 : Nat) (Option.some Jvm.ClassFile.FieldType.int)) : Cond) ∈ tables_1 := it7 (m81 (m9 (m9 mh)))
theorem tq_1486 : (.methodLink "TickPoolsModel" 130 yX12_stakes : Cond) ∈ tables_1 := it7 (m81 (m9 (m9 (mt mh))))
theorem tq_1487 : (.privateMethod yX12_stakes : Cond) ∈ tables_1 := it7 (m81 (m9 (m9 (mt (mt mh)))))
theorem tq_1488 : (.instanceMethod yX12_stakes : Cond) ∈ tables_1 := it7 (m81 (m9 (m9 (mt (mt (mt mh))))))
theorem tq_1489 : ((Jvm.Cond.code ({ cls := "TickPoolsModel", name := "stakes", desc := "()I" } : Jvm.MethodName) prog_14_method_14_code (1 : Nat) (Option.some Jvm.ClassFile.FieldType.int)) : Cond) ∈ tables_1 := it7 (m81 (m9 (m9 (mt (mt (mt (mt mh)))))))
theorem tq_1490 : (.methodLink "TickPoolsModel" 238 yX12_ofStake : Cond) ∈ tables_1 := it7 (m81 (m9 (m9 (mt (mt (mt (mt (mt mh))))))))
theorem tq_1491 : (.privateMethod yX12_ofStake : Cond) ∈ tables_1 := it7 (m81 (m9 (m9 (mt (mt (mt (mt (mt (mt mh)))))))))
theorem tq_1492 : (.instanceMethod yX12_ofStake : Cond) ∈ tables_1 := it7 (m81 (m9 (m9 (mt (mt (mt (mt (mt (mt (mt mh))))))))))
theorem tq_1493 : ((Jvm.Cond.code ({ cls := "TickPoolsModel", name := "ofStake", desc := "(II)J" } : Jvm.MethodName) prog_14_method_12_code (3 : Nat) (Option.some Jvm.ClassFile.FieldType.long)) : Cond) ∈ tables_1 := it7 (m81 (m9 (m9 (mt (mt (mt (mt (mt (mt (mt (mt mh)))))))))))
theorem tq_1494 : (.constantLong "TickPoolsModel" 298 999999 : Cond) ∈ tables_1 := it7 (m81 (m81 mh))
theorem tq_1495 : (.methodLink "TickPoolsModel" 271 yX12_liesIn : Cond) ∈ tables_1 := it7 (m81 (m81 (mt mh)))
theorem tq_1496 : (.privateMethod yX12_liesIn : Cond) ∈ tables_1 := it7 (m81 (m81 (mt (mt mh))))
theorem tq_1497 : (.instanceMethod yX12_liesIn : Cond) ∈ tables_1 := it7 (m81 (m81 (mt (mt (mt mh)))))
theorem tq_1498 : ((Jvm.Cond.code ({ cls := "TickPoolsModel", name := "liesIn", desc := "(IIIJIZ)J" } : Jvm.MethodName) prog_14_method_44_code (13 : Nat) (Option.some Jvm.ClassFile.FieldType.long)) : Cond) ∈ tables_1 := it7 (m81 (m81 (mt (mt (mt (mt mh))))))
theorem tq_1499 : (.methodLink "TickPoolsModel" 228 yX12_zoneNow : Cond) ∈ tables_1 := it7 (m81 (m81 (mt (mt (mt (mt (mt mh)))))))
theorem tq_1500 : (.privateMethod yX12_zoneNow : Cond) ∈ tables_1 := it7 (m81 (m81 (mt (mt (mt (mt (mt (mt mh))))))))
theorem tq_1501 : (.instanceMethod yX12_zoneNow : Cond) ∈ tables_1 := it7 (m81 (m81 (mt (mt (mt (mt (mt (mt (mt mh)))))))))
theorem tq_1502 : ((Jvm.Cond.code ({ cls := "TickPoolsModel", name := "zoneNow", desc := "(I)I" } : Jvm.MethodName) prog_14_method_15_code (2 : Nat) (Option.some Jvm.ClassFile.FieldType.int)) : Cond) ∈ tables_1 := it7 (m81 (m81 (mt (mt (mt (mt (mt (mt (mt (mt mh))))))))))
theorem tq_1503 : (.methodLink "TickPoolsModel" 116 yX12_ofPool : Cond) ∈ tables_1 := it7 (m81 (m81 (m9 mh)))
theorem tq_1504 : (.privateMethod yX12_ofPool : Cond) ∈ tables_1 := it7 (m81 (m81 (m9 (mt mh))))
theorem tq_1505 : (.instanceMethod yX12_ofPool : Cond) ∈ tables_1 := it7 (m81 (m81 (m9 (mt (mt mh)))))
theorem tq_1506 : ((Jvm.Cond.code ({ cls := "TickPoolsModel", name := "ofPool", desc := "(II)J" } : Jvm.MethodName) prog_14_method_9_code (3 : Nat) (Option.some Jvm.ClassFile.FieldType.long)) : Cond) ∈ tables_1 := it7 (m81 (m81 (m9 (mt (mt (mt mh))))))
theorem tq_1507 : (.methodLink "TickPoolsModel" 231 yX12_first : Cond) ∈ tables_1 := it7 (m81 (m81 (m9 (mt (mt (mt (mt mh)))))))
theorem tq_1508 : (.static yX12_first : Cond) ∈ tables_1 := it7 (m81 (m81 (m9 (mt (mt (mt (mt (mt mh))))))))
theorem tq_1509 : ((Jvm.Cond.code ({ cls := "TickPoolsModel", name := "first", desc := "(JJJZ)J" } : Jvm.MethodName) prog_14_method_42_code (9 : Nat) (Option.some Jvm.ClassFile.FieldType.long)) : Cond) ∈ tables_1 := it7 (m81 (m81 (m9 (mt (mt (mt (mt (mt (mt mh)))))))))
theorem tq_1510 : (.constantLong "TickPoolsModel" 222 100000 : Cond) ∈ tables_1 := it7 (m81 (m81 (m9 (mt (mt (mt (mt (mt (mt (mt mh))))))))))
theorem tq_1511 : (.methodLink "TickPoolsModel" 224 yX12_up : Cond) ∈ tables_1 := it7 (m81 (m81 (m9 (mt (mt (mt (mt (mt (mt (mt (mt mh)))))))))))
theorem tq_1512 : (.static yX12_up : Cond) ∈ tables_1 := it7 (m81 (m81 (m9 (m9 mh))))
theorem tq_1513 : ((Jvm.Cond.code ({ cls := "TickPoolsModel", name := "up", desc := "(JJ)J" } : Jvm.MethodName) prog_14_method_3_code (4 : Nat) (Option.some Jvm.ClassFile.FieldType.long)) : Cond) ∈ tables_1 := it7 (m81 (m81 (m9 (m9 (mt mh)))))
theorem tq_1514 : (.methodLink "TickPoolsModel" 235 yX12_second : Cond) ∈ tables_1 := it7 (m81 (m81 (m9 (m9 (mt (mt mh))))))
theorem tq_1515 : (.static yX12_second : Cond) ∈ tables_1 := it7 (m81 (m81 (m9 (m9 (mt (mt (mt mh)))))))
theorem tq_1516 : ((Jvm.Cond.code ({ cls := "TickPoolsModel", name := "second", desc := "(JJJZ)J" } : Jvm.MethodName) prog_14_method_43_code (9 : Nat) (Option.some Jvm.ClassFile.FieldType.long)) : Cond) ∈ tables_1 := it7 (m81 (m81 (m9 (m9 (mt (mt (mt (mt mh))))))))
theorem tq_1517 : (.methodLink "TickPoolsModel" 256 yX12_thingOf : Cond) ∈ tables_1 := it7 (m81 (m81 (m9 (m9 (mt (mt (mt (mt (mt mh)))))))))
theorem tq_1518 : (.privateMethod yX12_thingOf : Cond) ∈ tables_1 := it7 (m81 (m81 (m9 (m9 (mt (mt (mt (mt (mt (mt mh))))))))))
theorem tq_1519 : (.instanceMethod yX12_thingOf : Cond) ∈ tables_1 := it7 (m81 (m81 (m9 (m9 (mt (mt (mt (mt (mt (mt (mt mh)))))))))))
theorem tq_1520 : ((Jvm.Cond.code ({ cls := "TickPoolsModel", name := "thingOf", desc := "(II)I" } : Jvm.MethodName) prog_14_method_16_code (3 : Nat) (Option.some Jvm.ClassFile.FieldType.int)) : Cond) ∈ tables_1 := it7 (m81 (m81 (m9 (m9 (mt (mt (mt (mt (mt (mt (mt (mt mh))))))))))))
theorem tq_1521 : (.methodLink "TickPoolsModel" 300 yX12_inPurse : Cond) ∈ tables_1 := it7 (m81 (m81 (m81 mh)))
theorem tq_1522 : (.privateMethod yX12_inPurse : Cond) ∈ tables_1 := it7 (m81 (m81 (m81 (mt mh))))
theorem tq_1523 : (.instanceMethod yX12_inPurse : Cond) ∈ tables_1 := it7 (m81 (m81 (m81 (mt (mt mh)))))
theorem tq_1524 : ((Jvm.Cond.code ({ cls := "TickPoolsModel", name := "inPurse", desc := "(II)J" } : Jvm.MethodName) prog_14_method_17_code (3 : Nat) (Option.some Jvm.ClassFile.FieldType.long)) : Cond) ∈ tables_1 := it7 (m81 (m81 (m81 (mt (mt (mt mh))))))
theorem tq_1525 : (.methodLink "TickPoolsModel" 250 yX12_setStake : Cond) ∈ tables_1 := it7 (m81 (m81 (m81 (mt (mt (mt (mt mh)))))))
theorem tq_1526 : (.privateMethod yX12_setStake : Cond) ∈ tables_1 := it7 (m81 (m81 (m81 (mt (mt (mt (mt (mt mh))))))))
theorem tq_1527 : (.instanceMethod yX12_setStake : Cond) ∈ tables_1 := it7 (m81 (m81 (m81 (mt (mt (mt (mt (mt (mt mh)))))))))
theorem tq_1528 : ((Jvm.Cond.code ({ cls := "TickPoolsModel", name := "setStake", desc := "(IIJ)V" } : Jvm.MethodName) prog_14_method_13_code (5 : Nat) (Option.none : Option Jvm.ClassFile.FieldType)) : Cond) ∈ tables_1 := it7 (m81 (m81 (m81 (mt (mt (mt (mt (mt (mt (mt mh))))))))))
theorem tq_1529 : (.methodLink "TickPoolsModel" 267 yX12_settles : Cond) ∈ tables_1 := it7 (m81 (m81 (m81 (mt (mt (mt (mt (mt (mt (mt (mt mh)))))))))))
theorem tq_1530 : (.privateMethod yX12_settles : Cond) ∈ tables_1 := it7 (m81 (m81 (m81 (m9 mh))))
theorem tq_1531 : (.instanceMethod yX12_settles : Cond) ∈ tables_1 := it7 (m81 (m81 (m81 (m9 (mt mh)))))
theorem tq_1532 : ((Jvm.Cond.code ({ cls := "TickPoolsModel", name := "settles", desc := "(I)V" } : Jvm.MethodName) prog_14_method_48_code (3 : Nat) (Option.none : Option Jvm.ClassFile.FieldType)) : Cond) ∈ tables_1 := it7 (m81 (m81 (m81 (m9 (mt (mt mh))))))
theorem tq_1533 : (.methodLink "TickPoolsModel" 247 yX12_owedTo : Cond) ∈ tables_1 := it7 (m81 (m81 (m81 (m9 (mt (mt (mt mh)))))))
theorem tq_1534 : (.privateMethod yX12_owedTo : Cond) ∈ tables_1 := it7 (m81 (m81 (m81 (m9 (mt (mt (mt (mt mh))))))))
theorem tq_1535 : (.instanceMethod yX12_owedTo : Cond) ∈ tables_1 := it7 (m81 (m81 (m81 (m9 (mt (mt (mt (mt (mt mh)))))))))
theorem tq_1536 : ((Jvm.Cond.code ({ cls := "TickPoolsModel", name := "owedTo", desc := "(II)J" } : Jvm.MethodName) prog_14_method_47_code (3 : Nat) (Option.some Jvm.ClassFile.FieldType.long)) : Cond) ∈ tables_1 := it7 (m81 (m81 (m81 (m9 (mt (mt (mt (mt (mt (mt mh))))))))))
theorem tq_1537 : (.constantLong "TickPoolsModel" 245 1048576 : Cond) ∈ tables_1 := it7 (m81 (m81 (m81 (m9 (mt (mt (mt (mt (mt (mt (mt mh)))))))))))
theorem tq_1538 : (.methodLink "TickPoolsModel" 263 yX12_goesOut : Cond) ∈ tables_1 := it7 (m81 (m81 (m81 (m9 (mt (mt (mt (mt (mt (mt (mt (mt mh))))))))))))
theorem tq_1539 : (.privateMethod yX12_goesOut : Cond) ∈ tables_1 := it7 (m81 (m81 (m81 (m9 (m9 mh)))))
theorem tq_1540 : (.instanceMethod yX12_goesOut : Cond) ∈ tables_1 := it7 (m81 (m81 (m81 (m9 (m9 (mt mh))))))
theorem tq_1541 : ((Jvm.Cond.code ({ cls := "TickPoolsModel", name := "goesOut", desc := "(IIIJ)V" } : Jvm.MethodName) prog_14_method_49_code (6 : Nat) (Option.none : Option Jvm.ClassFile.FieldType)) : Cond) ∈ tables_1 := it7 (m81 (m81 (m81 (m9 (m9 (mt (mt mh)))))))
theorem tq_1542 : (.methodLink "TickPoolsModel" 253 yX12_morePool : Cond) ∈ tables_1 := it7 (m81 (m81 (m81 (m9 (m9 (mt (mt (mt mh))))))))
theorem tq_1543 : (.privateMethod yX12_morePool : Cond) ∈ tables_1 := it7 (m81 (m81 (m81 (m9 (m9 (mt (mt (mt (mt mh)))))))))
theorem tq_1544 : (.instanceMethod yX12_morePool : Cond) ∈ tables_1 := it7 (m81 (m81 (m81 (m9 (m9 (mt (mt (mt (mt (mt mh))))))))))
theorem tq_1545 : ((Jvm.Cond.code ({ cls := "TickPoolsModel", name := "morePool", desc := "(IIJ)V" } : Jvm.MethodName) prog_14_method_11_code (5 : Nat) (Option.none : Option Jvm.ClassFile.FieldType)) : Cond) ∈ tables_1 := it7 (m81 (m81 (m81 (m9 (m9 (mt (mt (mt (mt (mt (mt mh)))))))))))
theorem tq_1546 : (.methodLink "TickPoolsModel" 260 yX12_morePurse : Cond) ∈ tables_1 := it7 (m81 (m81 (m81 (m9 (m9 (mt (mt (mt (mt (mt (mt (mt mh))))))))))))
theorem tq_1547 : (.privateMethod yX12_morePurse : Cond) ∈ tables_1 := it7 (m81 (m81 (m81 (m9 (m9 (mt (mt (mt (mt (mt (mt (mt (mt mh)))))))))))))
theorem tq_1548 : (.instanceMethod yX12_morePurse : Cond) ∈ tables_1 := it7 (m81 (m81 (m81 (m81 mh))))
theorem tq_1549 : ((Jvm.Cond.code ({ cls := "TickPoolsModel", name := "morePurse", desc := "(IIJ)V" } : Jvm.MethodName) prog_14_method_18_code (5 : Nat) (Option.none : Option Jvm.ClassFile.FieldType)) : Cond) ∈ tables_1 := it7 (m81 (m81 (m81 (m81 (mt mh)))))
theorem tq_1550 : (.methodLink "TickPoolsLaw" 61 yX12_take : Cond) ∈ tables_1 := it7 (m81 (m81 (m81 (m81 (mt (mt mh))))))
theorem tq_1551 : (.instanceMethod yX12_take : Cond) ∈ tables_1 := it7 (m81 (m81 (m81 (m81 (mt (mt (mt mh)))))))
theorem tq_1552 : (.selects "TickPoolsModel" yX12_take yX12_take : Cond) ∈ tables_1 := it7 (m81 (m81 (m81 (m81 (mt (mt (mt (mt mh))))))))
theorem tq_1553 : ((Jvm.Cond.code ({ cls := "TickPoolsModel", name := "take", desc := "(II)I" } : Jvm.MethodName) prog_14_method_56_code (3 : Nat) (Option.some Jvm.ClassFile.FieldType.int)) : Cond) ∈ tables_1 := it7 (m81 (m81 (m81 (m81 (mt (mt (mt (mt (mt mh)))))))))
theorem tq_1554 : (.methodLink "TickPoolsModel" 307 yX12_isStake : Cond) ∈ tables_1 := it7 (m81 (m81 (m81 (m81 (mt (mt (mt (mt (mt (mt mh))))))))))
theorem tq_1555 : (.privateMethod yX12_isStake : Cond) ∈ tables_1 := it7 (m81 (m81 (m81 (m81 (mt (mt (mt (mt (mt (mt (mt mh)))))))))))
theorem tq_1556 : (.instanceMethod yX12_isStake : Cond) ∈ tables_1 := it7 (m81 (m81 (m81 (m81 (mt (mt (mt (mt (mt (mt (mt (mt mh))))))))))))
theorem tq_1557 : ((Jvm.Cond.code ({ cls := "TickPoolsModel", name := "isStake", desc := "(I)Z" } : Jvm.MethodName) prog_14_method_22_code (2 : Nat) (Option.some Jvm.ClassFile.FieldType.boolean)) : Cond) ∈ tables_1 := it7 (m81 (m81 (m81 (m81 (m9 mh)))))
theorem tq_1558 : (.methodLink "TickPoolsModel" 310 yX12_takesOut : Cond) ∈ tables_1 := it7 (m81 (m81 (m81 (m81 (m9 (mt mh))))))
theorem tq_1559 : (.privateMethod yX12_takesOut : Cond) ∈ tables_1 := it7 (m81 (m81 (m81 (m81 (m9 (mt (mt mh)))))))
theorem tq_1560 : (.instanceMethod yX12_takesOut : Cond) ∈ tables_1 := it7 (m81 (m81 (m81 (m81 (m9 (mt (mt (mt mh))))))))
theorem tq_1561 : ((Jvm.Cond.code ({ cls := "TickPoolsModel", name := "takesOut", desc := "(IJ)V" } : Jvm.MethodName) prog_14_method_51_code (6 : Nat) (Option.none : Option Jvm.ClassFile.FieldType)) : Cond) ∈ tables_1 := it7 (m81 (m81 (m81 (m81 (m9 (mt (mt (mt (mt mh)))))))))
theorem tq_1562 : (.methodLink "TickPoolsModel" 275 yX12_paysOut : Cond) ∈ tables_1 := it7 (m81 (m81 (m81 (m81 (m9 (mt (mt (mt (mt (mt mh))))))))))
theorem tq_1563 : (.privateMethod yX12_paysOut : Cond) ∈ tables_1 := it7 (m81 (m81 (m81 (m81 (m9 (mt (mt (mt (mt (mt (mt mh)))))))))))
theorem tq_1564 : (.instanceMethod yX12_paysOut : Cond) ∈ tables_1 := it7 (m81 (m81 (m81 (m81 (m9 (mt (mt (mt (mt (mt (mt (mt mh))))))))))))
theorem tq_1565 : ((Jvm.Cond.code ({ cls := "TickPoolsModel", name := "paysOut", desc := "(I)J" } : Jvm.MethodName) prog_14_method_50_code (7 : Nat) (Option.some Jvm.ClassFile.FieldType.long)) : Cond) ∈ tables_1 := it7 (m81 (m81 (m81 (m81 (m9 (mt (mt (mt (mt (mt (mt (mt (mt mh)))))))))))))
theorem tq_1566 : (.methodLink "TickPoolsLaw" 65 yX12_pay : Cond) ∈ tables_1 := it7 (m81 (m81 (m81 (m81 (m9 (m9 mh))))))
theorem tq_1567 : (.instanceMethod yX12_pay : Cond) ∈ tables_1 := it7 (m81 (m81 (m81 (m81 (m9 (m9 (mt mh)))))))
theorem tq_1568 : (.selects "TickPoolsModel" yX12_pay yX12_pay : Cond) ∈ tables_1 := it7 (m81 (m81 (m81 (m81 (m9 (m9 (mt (mt mh))))))))
theorem tq_1569 : ((Jvm.Cond.code ({ cls := "TickPoolsModel", name := "pay", desc := "(I)I" } : Jvm.MethodName) prog_14_method_57_code (2 : Nat) (Option.some Jvm.ClassFile.FieldType.int)) : Cond) ∈ tables_1 := it7 (m81 (m81 (m81 (m81 (m9 (m9 (mt (mt (mt mh)))))))))
theorem tq_1570 : (.methodLink "TickPoolsLaw" 69 yX12_levy : Cond) ∈ tables_1 := it7 (m81 (m81 (m81 (m81 (m9 (m9 (mt (mt (mt (mt mh))))))))))
theorem tq_1571 : (.instanceMethod yX12_levy : Cond) ∈ tables_1 := it7 (m81 (m81 (m81 (m81 (m9 (m9 (mt (mt (mt (mt (mt mh)))))))))))
theorem tq_1572 : (.selects "TickPoolsModel" yX12_levy yX12_levy : Cond) ∈ tables_1 := it7 (m81 (m81 (m81 (m81 (m9 (m9 (mt (mt (mt (mt (mt (mt mh))))))))))))
theorem tq_1573 : ((Jvm.Cond.code ({ cls := "TickPoolsModel", name := "levy", desc := "(I)I" } : Jvm.MethodName) prog_14_method_58_code (7 : Nat) (Option.some Jvm.ClassFile.FieldType.int)) : Cond) ∈ tables_1 := it7 (m81 (m81 (m81 (m81 (m9 (m9 (mt (mt (mt (mt (mt (mt (mt mh)))))))))))))
theorem tq_1574 : (.methodLink "TickPoolsLaw" 86 yX12_mean : Cond) ∈ tables_1 := it7 (m81 (m81 (m81 (m81 (m9 (m9 (mt (mt (mt (mt (mt (mt (mt (mt mh))))))))))))))
theorem tq_1575 : (.instanceMethod yX12_mean : Cond) ∈ tables_1 := it7 (m81 (m81 (m81 (m81 (m81 mh)))))
theorem tq_1576 : (.selects "TickPoolsModel" yX12_mean yX12_mean : Cond) ∈ tables_1 := it7 (m81 (m81 (m81 (m81 (m81 (mt mh))))))
theorem tq_1577 : ((Jvm.Cond.code ({ cls := "TickPoolsModel", name := "mean", desc := "(II)I" } : Jvm.MethodName) prog_14_method_75_code (5 : Nat) (Option.some Jvm.ClassFile.FieldType.int)) : Cond) ∈ tables_1 := it7 (m81 (m81 (m81 (m81 (m81 (mt (mt mh)))))))
theorem tq_1578 : (.methodLink "TickPoolsModel" 376 yX12_markOf : Cond) ∈ tables_1 := it7 (m81 (m81 (m81 (m81 (m81 (mt (mt (mt mh))))))))
theorem tq_1579 : (.privateMethod yX12_markOf : Cond) ∈ tables_1 := it7 (m81 (m81 (m81 (m81 (m81 (mt (mt (mt (mt mh)))))))))
theorem tq_1580 : (.instanceMethod yX12_markOf : Cond) ∈ tables_1 := it7 (m81 (m81 (m81 (m81 (m81 (mt (mt (mt (mt (mt mh))))))))))
theorem tq_1581 : ((Jvm.Cond.code ({ cls := "TickPoolsModel", name := "markOf", desc := "(III)J" } : Jvm.MethodName) prog_14_method_71_code (4 : Nat) (Option.some Jvm.ClassFile.FieldType.long)) : Cond) ∈ tables_1 := it7 (m81 (m81 (m81 (m81 (m81 (mt (mt (mt (mt (mt (mt mh)))))))))))
theorem tq_1582 : (.methodLink "TickPoolsModel" 379 yX12_sumAt : Cond) ∈ tables_1 := it7 (m81 (m81 (m81 (m81 (m81 (mt (mt (mt (mt (mt (mt (mt mh))))))))))))
theorem tq_1583 : (.privateMethod yX12_sumAt : Cond) ∈ tables_1 := it7 (m81 (m81 (m81 (m81 (m81 (mt (mt (mt (mt (mt (mt (mt (mt mh)))))))))))))
theorem tq_1584 : (.instanceMethod yX12_sumAt : Cond) ∈ tables_1 := it7 (m81 (m81 (m81 (m81 (m81 (m9 mh))))))
theorem tq_1585 : ((Jvm.Cond.code ({ cls := "TickPoolsModel", name := "sumAt", desc := "(IJ)J" } : Jvm.MethodName) prog_14_method_73_code (7 : Nat) (Option.some Jvm.ClassFile.FieldType.long)) : Cond) ∈ tables_1 := it7 (m81 (m81 (m81 (m81 (m81 (m9 (mt mh)))))))
theorem tq_1586 : (.methodLink "TickPoolsModel" 373 yX12_marks : Cond) ∈ tables_1 := it7 (m81 (m81 (m81 (m81 (m81 (m9 (mt (mt mh))))))))
theorem tq_1587 : (.privateMethod yX12_marks : Cond) ∈ tables_1 := it7 (m81 (m81 (m81 (m81 (m81 (m9 (mt (mt (mt mh)))))))))
theorem tq_1588 : (.instanceMethod yX12_marks : Cond) ∈ tables_1 := it7 (m81 (m81 (m81 (m81 (m81 (m9 (mt (mt (mt (mt mh))))))))))
theorem tq_1589 : ((Jvm.Cond.code ({ cls := "TickPoolsModel", name := "marks", desc := "(I)I" } : Jvm.MethodName) prog_14_method_72_code (2 : Nat) (Option.some Jvm.ClassFile.FieldType.int)) : Cond) ∈ tables_1 := it7 (m81 (m81 (m81 (m81 (m81 (m9 (mt (mt (mt (mt (mt mh)))))))))))
theorem tq_1590 : (.methodLink "TickPoolsLaw" 82 yX12_passes : Cond) ∈ tables_1 := it7 (m81 (m81 (m81 (m81 (m81 (m9 (mt (mt (mt (mt (mt (mt mh))))))))))))
theorem tq_1591 : (.instanceMethod yX12_passes : Cond) ∈ tables_1 := it7 (m81 (m81 (m81 (m81 (m81 (m9 (mt (mt (mt (mt (mt (mt (mt mh)))))))))))))
theorem tq_1592 : (.selects "TickPoolsModel" yX12_passes yX12_passes : Cond) ∈ tables_1 := it7 (m81 (m81 (m81 (m81 (m81 (m9 (mt (mt (mt (mt (mt (mt (mt (mt mh))))))))))))))
theorem tq_1593 : ((Jvm.Cond.code ({ cls := "TickPoolsModel", name := "passes", desc := "(I)I" } : Jvm.MethodName) prog_14_method_76_code (2 : Nat) (Option.some Jvm.ClassFile.FieldType.int)) : Cond) ∈ tables_1 := it7 (m81 (m81 (m81 (m81 (m81 (m9 (m9 mh)))))))
theorem tq_1594 : (.constantLong "TickPoolsModel" 384 9999 : Cond) ∈ tables_1 := it7 (m81 (m81 (m81 (m81 (m81 (m9 (m9 (mt mh))))))))
theorem tq_1595 : (.constantLong "TickPoolsModel" 386 9999999 : Cond) ∈ tables_1 := it7 (m81 (m81 (m81 (m81 (m81 (m9 (m9 (mt (mt mh)))))))))
theorem tq_1596 : (.methodLink "TickPoolsLaw" 73 yX12_in : Cond) ∈ tables_1 := it7 (m81 (m81 (m81 (m81 (m81 (m9 (m9 (mt (mt (mt mh))))))))))
theorem tq_1597 : (.instanceMethod yX12_in : Cond) ∈ tables_1 := it7 (m81 (m81 (m81 (m81 (m81 (m9 (m9 (mt (mt (mt (mt mh)))))))))))
theorem tq_1598 : (.selects "TickPoolsModel" yX12_in yX12_in : Cond) ∈ tables_1 := it7 (m81 (m81 (m81 (m81 (m81 (m9 (m9 (mt (mt (mt (mt (mt mh))))))))))))
theorem tq_1599 : ((Jvm.Cond.code ({ cls := "TickPoolsModel", name := "in", desc := "(IIIII)I" } : Jvm.MethodName) prog_14_method_78_code (6 : Nat) (Option.some Jvm.ClassFile.FieldType.int)) : Cond) ∈ tables_1 := it7 (m81 (m81 (m81 (m81 (m81 (m9 (m9 (mt (mt (mt (mt (mt (mt mh)))))))))))))
theorem tq_1600 : (.methodLink "TickPoolsModel" 388 yX12_isSide : Cond) ∈ tables_1 := it7 (m81 (m81 (m81 (m81 (m81 (m9 (m9 (mt (mt (mt (mt (mt (mt (mt mh))))))))))))))
theorem tq_1601 : (.static yX12_isSide : Cond) ∈ tables_1 := it7 (m81 (m81 (m81 (m81 (m81 (m9 (m9 (mt (mt (mt (mt (mt (mt (mt (mt mh)))))))))))))))
theorem tq_1602 : ((Jvm.Cond.code ({ cls := "TickPoolsModel", name := "isSide", desc := "(I)Z" } : Jvm.MethodName) prog_14_method_70_code (1 : Nat) (Option.some Jvm.ClassFile.FieldType.boolean)) : Cond) ∈ tables_1 := it7 (m81 (m81 (m81 (m81 (m81 (m81 mh))))))
theorem tq_1603 : (.methodLink "TickPoolsModel" 391 yX12_marksNow : Cond) ∈ tables_1 := it7 (m81 (m81 (m81 (m81 (m81 (m81 (mt mh)))))))
theorem tq_1604 : (.privateMethod yX12_marksNow : Cond) ∈ tables_1 := it7 (m81 (m81 (m81 (m81 (m81 (m81 (mt (mt mh))))))))
theorem tq_1605 : (.instanceMethod yX12_marksNow : Cond) ∈ tables_1 := it7 (m81 (m81 (m81 (m81 (m81 (m81 (mt (mt (mt mh)))))))))
theorem tq_1606 : ((Jvm.Cond.code ({ cls := "TickPoolsModel", name := "marksNow", desc := "(I)V" } : Jvm.MethodName) prog_14_method_74_code (5 : Nat) (Option.none : Option Jvm.ClassFile.FieldType)) : Cond) ∈ tables_1 := it7 (m81 (m81 (m81 (m81 (m81 (m81 (mt (mt (mt (mt mh))))))))))
theorem tq_1607 : (.constantLong "TickPoolsModel" 382 (-1) : Cond) ∈ tables_1 := it7 (m81 (m81 (m81 (m81 (m81 (m81 (mt (mt (mt (mt (mt mh)))))))))))
theorem tq_1608 : (.methodLink "TickPoolsModel" 394 yX12_swaps : Cond) ∈ tables_1 := it7 (m81 (m81 (m81 (m81 (m81 (m81 (mt (mt (mt (mt (mt (mt mh))))))))))))
theorem tq_1609 : (.privateMethod yX12_swaps : Cond) ∈ tables_1 := it7 (m81 (m81 (m81 (m81 (m81 (m81 (mt (mt (mt (mt (mt (mt (mt mh)))))))))))))
theorem tq_1610 : (.instanceMethod yX12_swaps : Cond) ∈ tables_1 := it7 (m81 (m81 (m81 (m81 (m81 (m81 (mt (mt (mt (mt (mt (mt (mt (mt mh))))))))))))))
theorem tq_1611 : ((Jvm.Cond.code ({ cls := "TickPoolsModel", name := "swaps", desc := "(IIJIZ)V" } : Jvm.MethodName) prog_14_method_68_code (8 : Nat) (Option.none : Option Jvm.ClassFile.FieldType)) : Cond) ∈ tables_1 := it7 (m81 (m81 (m81 (m81 (m81 (m81 (m9 mh)))))))
theorem tq_1612 : (.methodLink "TickPoolsModel" 369 yX12_steps : Cond) ∈ tables_1 := it7 (m81 (m81 (m81 (m81 (m81 (m81 (m9 (mt mh))))))))
theorem tq_1613 : (.privateMethod yX12_steps : Cond) ∈ tables_1 := it7 (m81 (m81 (m81 (m81 (m81 (m81 (m9 (mt (mt mh)))))))))
theorem tq_1614 : (.instanceMethod yX12_steps : Cond) ∈ tables_1 := it7 (m81 (m81 (m81 (m81 (m81 (m81 (m9 (mt (mt (mt mh))))))))))
theorem tq_1615 : ((Jvm.Cond.code ({ cls := "TickPoolsModel", name := "steps", desc := "(IIIZ)Z" } : Jvm.MethodName) prog_14_method_67_code (27 : Nat) (Option.some Jvm.ClassFile.FieldType.boolean)) : Cond) ∈ tables_1 := it7 (m81 (m81 (m81 (m81 (m81 (m81 (m9 (mt (mt (mt (mt mh)))))))))))
theorem tq_1616 : (.methodLink "TickPoolsModel" 322 yX12_aimOf : Cond) ∈ tables_1 := it7 (m81 (m81 (m81 (m81 (m81 (m81 (m9 (mt (mt (mt (mt (mt mh))))))))))))
theorem tq_1617 : (.privateMethod yX12_aimOf : Cond) ∈ tables_1 := it7 (m81 (m81 (m81 (m81 (m81 (m81 (m9 (mt (mt (mt (mt (mt (mt mh)))))))))))))
theorem tq_1618 : (.instanceMethod yX12_aimOf : Cond) ∈ tables_1 := it7 (m81 (m81 (m81 (m81 (m81 (m81 (m9 (mt (mt (mt (mt (mt (mt (mt mh))))))))))))))
theorem tq_1619 : ((Jvm.Cond.code ({ cls := "TickPoolsModel", name := "aimOf", desc := "(III)I" } : Jvm.MethodName) prog_14_method_59_code (9 : Nat) (Option.some Jvm.ClassFile.FieldType.int)) : Cond) ∈ tables_1 := it7 (m81 (m81 (m81 (m81 (m81 (m81 (m9 (mt (mt (mt (mt (mt (mt (mt (mt mh)))))))))))))))
theorem tq_1620 : (.methodLink "TickPoolsModel" 316 yX12_depthOf : Cond) ∈ tables_1 := it7 (m81 (m81 (m81 (m81 (m81 (m81 (m9 (m9 mh))))))))
theorem tq_1621 : (.privateMethod yX12_depthOf : Cond) ∈ tables_1 := it7 (m81 (m81 (m81 (m81 (m81 (m81 (m9 (m9 (mt mh)))))))))
theorem tq_1622 : (.instanceMethod yX12_depthOf : Cond) ∈ tables_1 := it7 (m81 (m81 (m81 (m81 (m81 (m81 (m9 (m9 (mt (mt mh))))))))))
theorem tq_1623 : ((Jvm.Cond.code ({ cls := "TickPoolsModel", name := "depthOf", desc := "(II)J" } : Jvm.MethodName) prog_14_method_46_code (6 : Nat) (Option.some Jvm.ClassFile.FieldType.long)) : Cond) ∈ tables_1 := it7 (m81 (m81 (m81 (m81 (m81 (m81 (m9 (m9 (mt (mt (mt mh)))))))))))
theorem tq_1624 : (.methodLink "TickPoolsModel" 241 yX12_isAcross : Cond) ∈ tables_1 := it7 (m81 (m81 (m81 (m81 (m81 (m81 (m9 (m9 (mt (mt (mt (mt mh))))))))))))
theorem tq_1625 : (.privateMethod yX12_isAcross : Cond) ∈ tables_1 := it7 (m81 (m81 (m81 (m81 (m81 (m81 (m9 (m9 (mt (mt (mt (mt (mt mh)))))))))))))
theorem tq_1626 : (.instanceMethod yX12_isAcross : Cond) ∈ tables_1 := it7 (m81 (m81 (m81 (m81 (m81 (m81 (m9 (m9 (mt (mt (mt (mt (mt (mt mh))))))))))))))
theorem tq_1627 : ((Jvm.Cond.code ({ cls := "TickPoolsModel", name := "isAcross", desc := "(III)Z" } : Jvm.MethodName) prog_14_method_45_code (4 : Nat) (Option.some Jvm.ClassFile.FieldType.boolean)) : Cond) ∈ tables_1 := it7 (m81 (m81 (m81 (m81 (m81 (m81 (m9 (m9 (mt (mt (mt (mt (mt (mt (mt mh)))))))))))))))
theorem tq_1628 : (.methodLink "TickPoolsModel" 319 yX12_feeOf : Cond) ∈ tables_1 := it7 (m81 (m81 (m81 (m81 (m81 (m81 (m9 (m9 (mt (mt (mt (mt (mt (mt (mt (mt mh))))))))))))))))
theorem tq_1629 : (.privateMethod yX12_feeOf : Cond) ∈ tables_1 := it7 (m81 (m81 (m81 (m81 (m81 (m81 (m81 mh)))))))
theorem tq_1630 : (.instanceMethod yX12_feeOf : Cond) ∈ tables_1 := it7 (m81 (m81 (m81 (m81 (m81 (m81 (m81 (mt mh))))))))
theorem tq_1631 : ((Jvm.Cond.code ({ cls := "TickPoolsModel", name := "feeOf", desc := "(I)I" } : Jvm.MethodName) prog_14_method_6_code (2 : Nat) (Option.some Jvm.ClassFile.FieldType.int)) : Cond) ∈ tables_1 := it7 (m81 (m81 (m81 (m81 (m81 (m81 (m81 (mt (mt mh)))))))))
theorem tq_1632 : (.constantLong "TickPoolsModel" 329 1000 : Cond) ∈ tables_1 := it7 (m81 (m81 (m81 (m81 (m81 (m81 (m81 (mt (mt (mt mh))))))))))
theorem tq_1633 : (.methodLink "TickPoolsModel" 331 yX12_wantedTo : Cond) ∈ tables_1 := it7 (m81 (m81 (m81 (m81 (m81 (m81 (m81 (mt (mt (mt (mt mh)))))))))))
theorem tq_1634 : (.privateMethod yX12_wantedTo : Cond) ∈ tables_1 := it7 (m81 (m81 (m81 (m81 (m81 (m81 (m81 (mt (mt (mt (mt (mt mh))))))))))))
theorem tq_1635 : (.instanceMethod yX12_wantedTo : Cond) ∈ tables_1 := it7 (m81 (m81 (m81 (m81 (m81 (m81 (m81 (mt (mt (mt (mt (mt (mt mh)))))))))))))
theorem tq_1636 : ((Jvm.Cond.code ({ cls := "TickPoolsModel", name := "wantedTo", desc := "(III)J" } : Jvm.MethodName) prog_14_method_61_code (6 : Nat) (Option.some Jvm.ClassFile.FieldType.long)) : Cond) ∈ tables_1 := it7 (m81 (m81 (m81 (m81 (m81 (m81 (m81 (mt (mt (mt (mt (mt (mt (mt mh))))))))))))))
theorem tq_1637 : (.methodLink "TickPoolsModel" 335 yX12_rootByOut : Cond) ∈ tables_1 := it7 (m81 (m81 (m81 (m81 (m81 (m81 (m81 (mt (mt (mt (mt (mt (mt (mt (mt mh)))))))))))))))
theorem tq_1638 : (.privateMethod yX12_rootByOut : Cond) ∈ tables_1 := it7 (m81 (m81 (m81 (m81 (m81 (m81 (m81 (m9 mh))))))))
theorem tq_1639 : (.instanceMethod yX12_rootByOut : Cond) ∈ tables_1 := it7 (m81 (m81 (m81 (m81 (m81 (m81 (m81 (m9 (mt mh)))))))))
theorem tq_1640 : ((Jvm.Cond.code ({ cls := "TickPoolsModel", name := "rootByOut", desc := "(IIJ)J" } : Jvm.MethodName) prog_14_method_64_code (9 : Nat) (Option.some Jvm.ClassFile.FieldType.long)) : Cond) ∈ tables_1 := it7 (m81 (m81 (m81 (m81 (m81 (m81 (m81 (m9 (mt (mt mh))))))))))
theorem tq_1641 : (.methodLink "TickPoolsModel" 339 yX12_rootBy : Cond) ∈ tables_1 := it7 (m81 (m81 (m81 (m81 (m81 (m81 (m81 (m9 (mt (mt (mt mh)))))))))))
theorem tq_1642 : (.privateMethod yX12_rootBy : Cond) ∈ tables_1 := it7 (m81 (m81 (m81 (m81 (m81 (m81 (m81 (m9 (mt (mt (mt (mt mh))))))))))))
theorem tq_1643 : (.instanceMethod yX12_rootBy : Cond) ∈ tables_1 := it7 (m81 (m81 (m81 (m81 (m81 (m81 (m81 (m9 (mt (mt (mt (mt (mt mh)))))))))))))
theorem tq_1644 : ((Jvm.Cond.code ({ cls := "TickPoolsModel", name := "rootBy", desc := "(IIJ)J" } : Jvm.MethodName) prog_14_method_63_code (9 : Nat) (Option.some Jvm.ClassFile.FieldType.long)) : Cond) ∈ tables_1 := it7 (m81 (m81 (m81 (m81 (m81 (m81 (m81 (m9 (mt (mt (mt (mt (mt (mt mh))))))))))))))
theorem tq_1645 : (.methodLink "TickPoolsModel" 342 yX12_feeUpon : Cond) ∈ tables_1 := it7 (m81 (m81 (m81 (m81 (m81 (m81 (m81 (m9 (mt (mt (mt (mt (mt (mt (mt mh)))))))))))))))
theorem tq_1646 : (.privateMethod yX12_feeUpon : Cond) ∈ tables_1 := it7 (m81 (m81 (m81 (m81 (m81 (m81 (m81 (m9 (mt (mt (mt (mt (mt (mt (mt (mt mh))))))))))))))))
theorem tq_1647 : (.instanceMethod yX12_feeUpon : Cond) ∈ tables_1 := it7 (m81 (m81 (m81 (m81 (m81 (m81 (m81 (m9 (m9 mh)))))))))
theorem tq_1648 : ((Jvm.Cond.code ({ cls := "TickPoolsModel", name := "feeUpon", desc := "(IJ)J" } : Jvm.MethodName) prog_14_method_62_code (4 : Nat) (Option.some Jvm.ClassFile.FieldType.long)) : Cond) ∈ tables_1 := it7 (m81 (m81 (m81 (m81 (m81 (m81 (m81 (m9 (m9 (mt mh))))))))))
theorem tq_1649 : (.methodLink "TickPoolsModel" 346 yX12_shares : Cond) ∈ tables_1 := it7 (m81 (m81 (m81 (m81 (m81 (m81 (m81 (m9 (m9 (mt (mt mh)))))))))))
theorem tq_1650 : (.privateMethod yX12_shares : Cond) ∈ tables_1 := it7 (m81 (m81 (m81 (m81 (m81 (m81 (m81 (m9 (m9 (mt (mt (mt mh))))))))))))
theorem tq_1651 : (.instanceMethod yX12_shares : Cond) ∈ tables_1 := it7 (m81 (m81 (m81 (m81 (m81 (m81 (m81 (m9 (m9 (mt (mt (mt (mt mh)))))))))))))
theorem tq_1652 : ((Jvm.Cond.code ({ cls := "TickPoolsModel", name := "shares", desc := "(IIJ)V" } : Jvm.MethodName) prog_14_method_60_code (11 : Nat) (Option.none : Option Jvm.ClassFile.FieldType)) : Cond) ∈ tables_1 := it7 (m81 (m81 (m81 (m81 (m81 (m81 (m81 (m9 (m9 (mt (mt (mt (mt (mt mh))))))))))))))
theorem tq_1653 : (.constantLong "TickPoolsModel" 314 100 : Cond) ∈ tables_1 := it7 (m81 (m81 (m81 (m81 (m81 (m81 (m81 (m9 (m9 (mt (mt (mt (mt (mt (mt mh)))))))))))))))
theorem tq_1654 : (.methodLink "TickPoolsModel" 358 yX12_zoneBy : Cond) ∈ tables_1 := it7 (m81 (m81 (m81 (m81 (m81 (m81 (m81 (m9 (m9 (mt (mt (mt (mt (mt (mt (mt mh))))))))))))))))
theorem tq_1655 : (.privateMethod yX12_zoneBy : Cond) ∈ tables_1 := it7 (m81 (m81 (m81 (m81 (m81 (m81 (m81 (m9 (m9 (mt (mt (mt (mt (mt (mt (mt (mt mh)))))))))))))))))
theorem tq_1656 : (.instanceMethod yX12_zoneBy : Cond) ∈ tables_1 := it7 (m81 (m81 (m81 (m81 (m81 (m81 (m81 (m81 mh))))))))
theorem tq_1657 : ((Jvm.Cond.code ({ cls := "TickPoolsModel", name := "zoneBy", desc := "(IIII)I" } : Jvm.MethodName) prog_14_method_65_code (6 : Nat) (Option.some Jvm.ClassFile.FieldType.int)) : Cond) ∈ tables_1 := it7 (m81 (m81 (m81 (m81 (m81 (m81 (m81 (m81 (mt mh)))))))))
theorem tq_1658 : (.methodLink "TickPoolsModel" 365 yX12_drops : Cond) ∈ tables_1 := it7 (m81 (m81 (m81 (m81 (m81 (m81 (m81 (m81 (mt (mt mh))))))))))
theorem tq_1659 : (.privateMethod yX12_drops : Cond) ∈ tables_1 := it7 (m81 (m81 (m81 (m81 (m81 (m81 (m81 (m81 (mt (mt (mt mh)))))))))))
theorem tq_1660 : (.instanceMethod yX12_drops : Cond) ∈ tables_1 := it7 (m81 (m81 (m81 (m81 (m81 (m81 (m81 (m81 (mt (mt (mt (mt mh))))))))))))
theorem tq_1661 : ((Jvm.Cond.code ({ cls := "TickPoolsModel", name := "drops", desc := "(III)V" } : Jvm.MethodName) prog_14_method_66_code (6 : Nat) (Option.none : Option Jvm.ClassFile.FieldType)) : Cond) ∈ tables_1 := it7 (m81 (m81 (m81 (m81 (m81 (m81 (m81 (m81 (mt (mt (mt (mt (mt mh)))))))))))))
theorem tq_1662 : (.methodLink "TickPoolsModel" 398 yX12_trades : Cond) ∈ tables_1 := it7 (m81 (m81 (m81 (m81 (m81 (m81 (m81 (m81 (mt (mt (mt (mt (mt (mt mh))))))))))))))
theorem tq_1663 : (.privateMethod yX12_trades : Cond) ∈ tables_1 := it7 (m81 (m81 (m81 (m81 (m81 (m81 (m81 (m81 (mt (mt (mt (mt (mt (mt (mt mh)))))))))))))))
theorem tq_1664 : (.instanceMethod yX12_trades : Cond) ∈ tables_1 := it7 (m81 (m81 (m81 (m81 (m81 (m81 (m81 (m81 (mt (mt (mt (mt (mt (mt (mt (mt mh))))))))))))))))
theorem tq_1665 : ((Jvm.Cond.code ({ cls := "TickPoolsModel", name := "trades", desc := "(III)V" } : Jvm.MethodName) prog_14_method_77_code (4 : Nat) (Option.none : Option Jvm.ClassFile.FieldType)) : Cond) ∈ tables_1 := it7 (m81 (m81 (m81 (m81 (m81 (m81 (m81 (m81 (m9 mh)))))))))
theorem tq_1666 : (.methodLink "TickPoolsLaw" 78 yX12_out : Cond) ∈ tables_1 := it7 (m81 (m81 (m81 (m81 (m81 (m81 (m81 (m81 (m9 (mt mh))))))))))
theorem tq_1667 : (.instanceMethod yX12_out : Cond) ∈ tables_1 := it7 (m81 (m81 (m81 (m81 (m81 (m81 (m81 (m81 (m9 (mt (mt mh)))))))))))
theorem tq_1668 : (.selects "TickPoolsModel" yX12_out yX12_out : Cond) ∈ tables_1 := it7 (m81 (m81 (m81 (m81 (m81 (m81 (m81 (m81 (m9 (mt (mt (mt mh))))))))))))
theorem tq_1669 : ((Jvm.Cond.code ({ cls := "TickPoolsModel", name := "out", desc := "(IIII)I" } : Jvm.MethodName) prog_14_method_79_code (7 : Nat) (Option.some Jvm.ClassFile.FieldType.int)) : Cond) ∈ tables_1 := it7 (m81 (m81 (m81 (m81 (m81 (m81 (m81 (m81 (m9 (mt (mt (mt (mt mh)))))))))))))
theorem tq_1670 : (.methodLink "TickPoolsModel" 401 yX12_keeps : Cond) ∈ tables_1 := it7 (m81 (m81 (m81 (m81 (m81 (m81 (m81 (m81 (m9 (mt (mt (mt (mt (mt mh))))))))))))))
theorem tq_1671 : (.privateMethod yX12_keeps : Cond) ∈ tables_1 := it7 (m81 (m81 (m81 (m81 (m81 (m81 (m81 (m81 (m9 (mt (mt (mt (mt (mt (mt mh)))))))))))))))
theorem tq_1672 : (.instanceMethod yX12_keeps : Cond) ∈ tables_1 := it7 (m81 (m81 (m81 (m81 (m81 (m81 (m81 (m81 (m9 (mt (mt (mt (mt (mt (mt (mt mh))))))))))))))))
theorem tq_1673 : ((Jvm.Cond.code ({ cls := "TickPoolsModel", name := "keeps", desc := "(I)V" } : Jvm.MethodName) prog_14_method_7_code (3 : Nat) (Option.none : Option Jvm.ClassFile.FieldType)) : Cond) ∈ tables_1 := it7 (m81 (m81 (m81 (m81 (m81 (m81 (m81 (m81 (m9 (mt (mt (mt (mt (mt (mt (mt (mt mh)))))))))))))))))
theorem tq_1674 : (.methodLink "TickPoolsModel" 404 yX12_endOf : Cond) ∈ tables_1 := it7 (m81 (m81 (m81 (m81 (m81 (m81 (m81 (m81 (m9 (m9 mh))))))))))
theorem tq_1675 : (.static yX12_endOf : Cond) ∈ tables_1 := it7 (m81 (m81 (m81 (m81 (m81 (m81 (m81 (m81 (m9 (m9 (mt mh)))))))))))
theorem tq_1676 : ((Jvm.Cond.code ({ cls := "TickPoolsModel", name := "endOf", desc := "(I)I" } : Jvm.MethodName) prog_14_method_69_code (1 : Nat) (Option.some Jvm.ClassFile.FieldType.int)) : Cond) ∈ tables_1 := it7 (m81 (m81 (m81 (m81 (m81 (m81 (m81 (m81 (m9 (m9 (mt (mt mh))))))))))))
theorem tq_1677 : (.methodLink "TickPoolsModel" 407 yX12_laysBack : Cond) ∈ tables_1 := it7 (m81 (m81 (m81 (m81 (m81 (m81 (m81 (m81 (m9 (m9 (mt (mt (mt mh)))))))))))))
theorem tq_1678 : (.privateMethod yX12_laysBack : Cond) ∈ tables_1 := it7 (m81 (m81 (m81 (m81 (m81 (m81 (m81 (m81 (m9 (m9 (mt (mt (mt (mt mh))))))))))))))
theorem tq_1679 : (.instanceMethod yX12_laysBack : Cond) ∈ tables_1 := it7 (m81 (m81 (m81 (m81 (m81 (m81 (m81 (m81 (m9 (m9 (mt (mt (mt (mt (mt mh)))))))))))))))
theorem tq_1680 : ((Jvm.Cond.code ({ cls := "TickPoolsModel", name := "laysBack", desc := "(I)V" } : Jvm.MethodName) prog_14_method_8_code (3 : Nat) (Option.none : Option Jvm.ClassFile.FieldType)) : Cond) ∈ tables_1 := it8 mh
theorem tq_1681 : (.methodLink "TickPoolsLaw" 31 yX12_bundle : Cond) ∈ tables_1 := it8 (mt mh)
theorem tq_1682 : (.instanceMethod yX12_bundle : Cond) ∈ tables_1 := it8 (mt (mt mh))
theorem tq_1683 : (.selects "TickPoolsModel" yX12_bundle yX12_bundle : Cond) ∈ tables_1 := it8 (mt (mt (mt mh)))
theorem tq_1684 : ((Jvm.Cond.code ({ cls := "TickPoolsModel", name := "bundle", desc := "(I)I" } : Jvm.MethodName) prog_14_method_99_code (3 : Nat) (Option.some Jvm.ClassFile.FieldType.int)) : Cond) ∈ tables_1 := it8 (mt (mt (mt (mt mh))))
theorem tq_1685 : (.methodLink "TickPoolsModel" 497 yX12_readsBundle : Cond) ∈ tables_1 := it8 (mt (mt (mt (mt (mt mh)))))
theorem tq_1686 : (.privateMethod yX12_readsBundle : Cond) ∈ tables_1 := it8 (mt (mt (mt (mt (mt (mt mh))))))
theorem tq_1687 : (.instanceMethod yX12_readsBundle : Cond) ∈ tables_1 := it8 (mt (mt (mt (mt (mt (mt (mt mh)))))))
theorem tq_1688 : ((Jvm.Cond.code ({ cls := "TickPoolsModel", name := "readsBundle", desc := "()Z" } : Jvm.MethodName) prog_14_method_86_code (3 : Nat) (Option.some Jvm.ClassFile.FieldType.boolean)) : Cond) ∈ tables_1 := it8 (mt (mt (mt (mt (mt (mt (mt (mt mh))))))))
theorem tq_1689 : (.methodLink "TickPoolsModel" 431 yX12_readsStep : Cond) ∈ tables_1 := it8 (m9 mh)
theorem tq_1690 : (.privateMethod yX12_readsStep : Cond) ∈ tables_1 := it8 (m9 (mt mh))
theorem tq_1691 : (.instanceMethod yX12_readsStep : Cond) ∈ tables_1 := it8 (m9 (mt (mt mh)))
theorem tq_1692 : ((Jvm.Cond.code ({ cls := "TickPoolsModel", name := "readsStep", desc := "()Z" } : Jvm.MethodName) prog_14_method_84_code (5 : Nat) (Option.some Jvm.ClassFile.FieldType.boolean)) : Cond) ∈ tables_1 := it8 (m9 (mt (mt (mt mh))))
theorem tq_1693 : (.methodLink "TickPoolsModel" 413 yX12_kindBy : Cond) ∈ tables_1 := it8 (m9 (mt (mt (mt (mt mh)))))
theorem tq_1694 : (.static yX12_kindBy : Cond) ∈ tables_1 := it8 (m9 (mt (mt (mt (mt (mt mh))))))
theorem tq_1695 : ((Jvm.Cond.code ({ cls := "TickPoolsModel", name := "kindBy", desc := "(J[J)I" } : Jvm.MethodName) prog_14_method_80_code (4 : Nat) (Option.some Jvm.ClassFile.FieldType.int)) : Cond) ∈ tables_1 := it8 (m9 (mt (mt (mt (mt (mt (mt mh)))))))
theorem tq_1696 : (.methodLink "TickPoolsModel" 420 yX12_readsNumbers : Cond) ∈ tables_1 := it8 (m9 (mt (mt (mt (mt (mt (mt (mt mh))))))))
theorem tq_1697 : (.privateMethod yX12_readsNumbers : Cond) ∈ tables_1 := it8 (m9 (mt (mt (mt (mt (mt (mt (mt (mt mh)))))))))
theorem tq_1698 : (.instanceMethod yX12_readsNumbers : Cond) ∈ tables_1 := it8 (m9 (m9 mh))
theorem tq_1699 : ((Jvm.Cond.code ({ cls := "TickPoolsModel", name := "readsNumbers", desc := "(IIIII)Z" } : Jvm.MethodName) prog_14_method_81_code (7 : Nat) (Option.some Jvm.ClassFile.FieldType.boolean)) : Cond) ∈ tables_1 := it8 (m9 (m9 (mt mh)))
theorem tq_1700 : (.methodLink "TickPoolsModel" 424 yX12_readsMuch : Cond) ∈ tables_1 := it8 (m9 (m9 (mt (mt mh))))
theorem tq_1701 : (.privateMethod yX12_readsMuch : Cond) ∈ tables_1 := it8 (m9 (m9 (mt (mt (mt mh)))))
theorem tq_1702 : (.instanceMethod yX12_readsMuch : Cond) ∈ tables_1 := it8 (m9 (m9 (mt (mt (mt (mt mh))))))
theorem tq_1703 : ((Jvm.Cond.code ({ cls := "TickPoolsModel", name := "readsMuch", desc := "(I)Z" } : Jvm.MethodName) prog_14_method_82_code (4 : Nat) (Option.some Jvm.ClassFile.FieldType.boolean)) : Cond) ∈ tables_1 := it8 (m9 (m9 (mt (mt (mt (mt (mt mh)))))))
theorem tq_1704 : (.constant "TickPoolsModel" 427 99999 : Cond) ∈ tables_1 := it8 (m9 (m9 (mt (mt (mt (mt (mt (mt mh))))))))
theorem tq_1705 : (.methodLink "TickPoolsModel" 428 yX12_opens : Cond) ∈ tables_1 := it8 (m9 (m9 (mt (mt (mt (mt (mt (mt (mt mh)))))))))
theorem tq_1706 : (.privateMethod yX12_opens : Cond) ∈ tables_1 := it8 (m9 (m9 (mt (mt (mt (mt (mt (mt (mt (mt mh))))))))))
theorem tq_1707 : (.instanceMethod yX12_opens : Cond) ∈ tables_1 := it8 (m81 mh)
theorem tq_1708 : ((Jvm.Cond.code ({ cls := "TickPoolsModel", name := "opens", desc := "(I)Z" } : Jvm.MethodName) prog_14_method_83_code (2 : Nat) (Option.some Jvm.ClassFile.FieldType.boolean)) : Cond) ∈ tables_1 := it8 (m81 (mt mh))
theorem tq_1709 : (.methodLink "TickPoolsModel" 434 yX12_goesOn : Cond) ∈ tables_1 := it8 (m81 (mt (mt mh)))
theorem tq_1710 : (.privateMethod yX12_goesOn : Cond) ∈ tables_1 := it8 (m81 (mt (mt (mt mh))))
theorem tq_1711 : (.instanceMethod yX12_goesOn : Cond) ∈ tables_1 := it8 (m81 (mt (mt (mt (mt mh)))))
theorem tq_1712 : ((Jvm.Cond.code ({ cls := "TickPoolsModel", name := "goesOn", desc := "()I" } : Jvm.MethodName) prog_14_method_85_code (1 : Nat) (Option.some Jvm.ClassFile.FieldType.int)) : Cond) ∈ tables_1 := it8 (m81 (mt (mt (mt (mt (mt mh))))))
theorem tq_1713 : (.methodLink "TickPoolsModel" 500 yX12_doesAll : Cond) ∈ tables_1 := it8 (m81 (mt (mt (mt (mt (mt (mt mh)))))))
theorem tq_1714 : (.privateMethod yX12_doesAll : Cond) ∈ tables_1 := it8 (m81 (mt (mt (mt (mt (mt (mt (mt mh))))))))
theorem tq_1715 : (.instanceMethod yX12_doesAll : Cond) ∈ tables_1 := it8 (m81 (mt (mt (mt (mt (mt (mt (mt (mt mh)))))))))
theorem tq_1716 : ((Jvm.Cond.code ({ cls := "TickPoolsModel", name := "doesAll", desc := "()Z" } : Jvm.MethodName) prog_14_method_98_code (2 : Nat) (Option.some Jvm.ClassFile.FieldType.boolean)) : Cond) ∈ tables_1 := it8 (m81 (m9 mh))
theorem tq_1717 : (.methodLink "TickPoolsModel" 491 yX12_comesOut : Cond) ∈ tables_1 := it8 (m81 (m9 (mt mh)))
theorem tq_1718 : (.privateMethod yX12_comesOut : Cond) ∈ tables_1 := it8 (m81 (m9 (mt (mt mh))))
theorem tq_1719 : (.instanceMethod yX12_comesOut : Cond) ∈ tables_1 := it8 (m81 (m9 (mt (mt (mt mh)))))
theorem tq_1720 : ((Jvm.Cond.code ({ cls := "TickPoolsModel", name := "comesOut", desc := "()I" } : Jvm.MethodName) prog_14_method_96_code (2 : Nat) (Option.some Jvm.ClassFile.FieldType.int)) : Cond) ∈ tables_1 := it8 (m81 (m9 (mt (mt (mt (mt mh))))))
theorem tq_1721 : (.methodLink "TickPoolsModel" 478 yX12_givesBack : Cond) ∈ tables_1 := it8 (m81 (m9 (mt (mt (mt (mt (mt mh)))))))
theorem tq_1722 : (.privateMethod yX12_givesBack : Cond) ∈ tables_1 := it8 (m81 (m9 (mt (mt (mt (mt (mt (mt mh))))))))
theorem tq_1723 : (.instanceMethod yX12_givesBack : Cond) ∈ tables_1 := it8 (m81 (m9 (mt (mt (mt (mt (mt (mt (mt mh)))))))))
theorem tq_1724 : ((Jvm.Cond.code ({ cls := "TickPoolsModel", name := "givesBack", desc := "(IJ)Z" } : Jvm.MethodName) prog_14_method_94_code (8 : Nat) (Option.some Jvm.ClassFile.FieldType.boolean)) : Cond) ∈ tables_1 := it8 (m81 (m9 (mt (mt (mt (mt (mt (mt (mt (mt mh))))))))))
theorem tq_1725 : (.methodLink "TickPoolsModel" 449 yX12_stops : Cond) ∈ tables_1 := it8 (m81 (m9 (m9 mh)))
theorem tq_1726 : (.privateMethod yX12_stops : Cond) ∈ tables_1 := it8 (m81 (m9 (m9 (mt mh))))
theorem tq_1727 : (.instanceMethod yX12_stops : Cond) ∈ tables_1 := it8 (m81 (m9 (m9 (mt (mt mh)))))
theorem tq_1728 : ((Jvm.Cond.code ({ cls := "TickPoolsModel", name := "stops", desc := "(II)Z" } : Jvm.MethodName) prog_14_method_88_code (3 : Nat) (Option.some Jvm.ClassFile.FieldType.boolean)) : Cond) ∈ tables_1 := it8 (m81 (m9 (m9 (mt (mt (mt mh))))))
theorem tq_1729 : (.methodLink "TickPoolsModel" 494 yX12_goesFrom : Cond) ∈ tables_1 := it8 (m81 (m9 (m9 (mt (mt (mt (mt mh)))))))
theorem tq_1730 : (.privateMethod yX12_goesFrom : Cond) ∈ tables_1 := it8 (m81 (m9 (m9 (mt (mt (mt (mt (mt mh))))))))
theorem tq_1731 : (.instanceMethod yX12_goesFrom : Cond) ∈ tables_1 := it8 (m81 (m9 (m9 (mt (mt (mt (mt (mt (mt mh)))))))))
theorem tq_1732 : ((Jvm.Cond.code ({ cls := "TickPoolsModel", name := "goesFrom", desc := "(I)I" } : Jvm.MethodName) prog_14_method_97_code (2 : Nat) (Option.some Jvm.ClassFile.FieldType.int)) : Cond) ∈ tables_1 := it8 (m81 (m9 (m9 (mt (mt (mt (mt (mt (mt (mt mh))))))))))
theorem tq_1733 : (.methodLink "TickPoolsModel" 485 yX12_lends : Cond) ∈ tables_1 := it8 (m81 (m9 (m9 (mt (mt (mt (mt (mt (mt (mt (mt mh)))))))))))
theorem tq_1734 : (.privateMethod yX12_lends : Cond) ∈ tables_1 := it8 (m81 (m81 mh))
theorem tq_1735 : (.instanceMethod yX12_lends : Cond) ∈ tables_1 := it8 (m81 (m81 (mt mh)))
theorem tq_1736 : ((Jvm.Cond.code ({ cls := "TickPoolsModel", name := "lends", desc := "(I)Z" } : Jvm.MethodName) prog_14_method_93_code (6 : Nat) (Option.some Jvm.ClassFile.FieldType.boolean)) : Cond) ∈ tables_1 := it8 (m81 (m81 (mt (mt mh))))
theorem tq_1737 : (.methodLink "TickPoolsModel" 446 yX12_isOpen : Cond) ∈ tables_1 := it8 (m81 (m81 (mt (mt (mt mh)))))
theorem tq_1738 : (.privateMethod yX12_isOpen : Cond) ∈ tables_1 := it8 (m81 (m81 (mt (mt (mt (mt mh))))))
theorem tq_1739 : (.instanceMethod yX12_isOpen : Cond) ∈ tables_1 := it8 (m81 (m81 (mt (mt (mt (mt (mt mh)))))))
theorem tq_1740 : ((Jvm.Cond.code ({ cls := "TickPoolsModel", name := "isOpen", desc := "(I)Z" } : Jvm.MethodName) prog_14_method_87_code (2 : Nat) (Option.some Jvm.ClassFile.FieldType.boolean)) : Cond) ∈ tables_1 := it8 (m81 (m81 (mt (mt (mt (mt (mt (mt mh))))))))
theorem tq_1741 : (.methodLink "TickPoolsModel" 452 yX12_muchOf : Cond) ∈ tables_1 := it8 (m81 (m81 (mt (mt (mt (mt (mt (mt (mt mh)))))))))
theorem tq_1742 : (.privateMethod yX12_muchOf : Cond) ∈ tables_1 := it8 (m81 (m81 (mt (mt (mt (mt (mt (mt (mt (mt mh))))))))))
theorem tq_1743 : (.instanceMethod yX12_muchOf : Cond) ∈ tables_1 := it8 (m81 (m81 (m9 mh)))
theorem tq_1744 : ((Jvm.Cond.code ({ cls := "TickPoolsModel", name := "muchOf", desc := "(I)J" } : Jvm.MethodName) prog_14_method_89_code (4 : Nat) (Option.some Jvm.ClassFile.FieldType.long)) : Cond) ∈ tables_1 := it8 (m81 (m81 (m9 (mt mh))))
theorem tq_1745 : (.methodLink "TickPoolsModel" 466 yX12_goesInto : Cond) ∈ tables_1 := it8 (m81 (m81 (m9 (mt (mt mh)))))
theorem tq_1746 : (.privateMethod yX12_goesInto : Cond) ∈ tables_1 := it8 (m81 (m81 (m9 (mt (mt (mt mh))))))
theorem tq_1747 : (.instanceMethod yX12_goesInto : Cond) ∈ tables_1 := it8 (m81 (m81 (m9 (mt (mt (mt (mt mh)))))))
theorem tq_1748 : ((Jvm.Cond.code ({ cls := "TickPoolsModel", name := "goesInto", desc := "(IIJ)V" } : Jvm.MethodName) prog_14_method_92_code (5 : Nat) (Option.none : Option Jvm.ClassFile.FieldType)) : Cond) ∈ tables_1 := it8 (m81 (m81 (m9 (mt (mt (mt (mt (mt mh))))))))
theorem tq_1749 : (.methodLink "TickPoolsModel" 488 yX12_doesOne : Cond) ∈ tables_1 := it8 (m81 (m81 (m9 (mt (mt (mt (mt (mt (mt mh)))))))))
theorem tq_1750 : (.privateMethod yX12_doesOne : Cond) ∈ tables_1 := it8 (m81 (m81 (m9 (mt (mt (mt (mt (mt (mt (mt mh))))))))))
theorem tq_1751 : (.instanceMethod yX12_doesOne : Cond) ∈ tables_1 := it8 (m81 (m81 (m9 (mt (mt (mt (mt (mt (mt (mt (mt mh)))))))))))
theorem tq_1752 : ((Jvm.Cond.code ({ cls := "TickPoolsModel", name := "doesOne", desc := "(I)Z" } : Jvm.MethodName) prog_14_method_95_code (3 : Nat) (Option.some Jvm.ClassFile.FieldType.boolean)) : Cond) ∈ tables_1 := it8 (m81 (m81 (m9 (m9 mh))))
theorem tq_1753 : (.methodLink "TickPoolsModel" 469 yX12_swapsOne : Cond) ∈ tables_1 := it8 (m81 (m81 (m9 (m9 (mt mh)))))
theorem tq_1754 : (.privateMethod yX12_swapsOne : Cond) ∈ tables_1 := it8 (m81 (m81 (m9 (m9 (mt (mt mh))))))
theorem tq_1755 : (.instanceMethod yX12_swapsOne : Cond) ∈ tables_1 := it8 (m81 (m81 (m9 (m9 (mt (mt (mt mh)))))))
theorem tq_1756 : ((Jvm.Cond.code ({ cls := "TickPoolsModel", name := "swapsOne", desc := "(I)Z" } : Jvm.MethodName) prog_14_method_90_code (6 : Nat) (Option.some Jvm.ClassFile.FieldType.boolean)) : Cond) ∈ tables_1 := it8 (m81 (m81 (m9 (m9 (mt (mt (mt (mt mh))))))))
theorem tq_1757 : (.constantLong "TickPoolsModel" 455 2147483647 : Cond) ∈ tables_1 := it8 (m81 (m81 (m9 (m9 (mt (mt (mt (mt (mt mh)))))))))
theorem tq_1758 : (.methodLink "TickPoolsModel" 457 yX12_in : Cond) ∈ tables_1 := it8 (m81 (m81 (m9 (m9 (mt (mt (mt (mt (mt (mt mh))))))))))
theorem tq_1759 : (.methodLink "TickPoolsModel" 460 yX12_out : Cond) ∈ tables_1 := it8 (m81 (m81 (m9 (m9 (mt (mt (mt (mt (mt (mt (mt mh)))))))))))
theorem tq_1760 : (.methodLink "TickPoolsModel" 472 yX12_dropsOne : Cond) ∈ tables_1 := it8 (m81 (m81 (m9 (m9 (mt (mt (mt (mt (mt (mt (mt (mt mh))))))))))))
theorem tq_1761 : (.privateMethod yX12_dropsOne : Cond) ∈ tables_1 := it8 (m81 (m81 (m81 mh)))
theorem tq_1762 : (.instanceMethod yX12_dropsOne : Cond) ∈ tables_1 := it8 (m81 (m81 (m81 (mt mh))))
theorem tq_1763 : ((Jvm.Cond.code ({ cls := "TickPoolsModel", name := "dropsOne", desc := "(I)Z" } : Jvm.MethodName) prog_14_method_91_code (4 : Nat) (Option.some Jvm.ClassFile.FieldType.boolean)) : Cond) ∈ tables_1 := it8 (m81 (m81 (m81 (mt (mt mh)))))
theorem tq_1764 : (.methodLink "TickPoolsModel" 475 yX12_isThing : Cond) ∈ tables_1 := it8 (m81 (m81 (m81 (mt (mt (mt mh))))))
theorem tq_1765 : (.privateMethod yX12_isThing : Cond) ∈ tables_1 := it8 (m81 (m81 (m81 (mt (mt (mt (mt mh)))))))
theorem tq_1766 : (.instanceMethod yX12_isThing : Cond) ∈ tables_1 := it8 (m81 (m81 (m81 (mt (mt (mt (mt (mt mh))))))))
theorem tq_1767 : ((Jvm.Cond.code ({ cls := "TickPoolsModel", name := "isThing", desc := "(I)Z" } : Jvm.MethodName) prog_14_method_21_code (2 : Nat) (Option.some Jvm.ClassFile.FieldType.boolean)) : Cond) ∈ tables_1 := it8 (m81 (m81 (m81 (mt (mt (mt (mt (mt (mt mh)))))))))
theorem tq_1768 : (.methodLink "TickPoolsLaw" 35 yX12_root : Cond) ∈ tables_1 := it8 (m81 (m81 (m81 (mt (mt (mt (mt (mt (mt (mt mh))))))))))
theorem tq_1769 : (.instanceMethod yX12_root : Cond) ∈ tables_1 := it8 (m81 (m81 (m81 (mt (mt (mt (mt (mt (mt (mt (mt mh)))))))))))
theorem tq_1770 : (.selects "TickPoolsModel" yX12_root yX12_root : Cond) ∈ tables_1 := it8 (m81 (m81 (m81 (m9 mh))))
theorem tq_1771 : ((Jvm.Cond.code ({ cls := "TickPoolsModel", name := "root", desc := "(I)I" } : Jvm.MethodName) prog_14_method_100_code (2 : Nat) (Option.some Jvm.ClassFile.FieldType.int)) : Cond) ∈ tables_1 := it8 (m81 (m81 (m81 (m9 (mt mh)))))
theorem tq_1772 : (.methodLink "TickPoolsLaw" 40 yX12_purse : Cond) ∈ tables_1 := it8 (m81 (m81 (m81 (m9 (mt (mt mh))))))
theorem tq_1773 : (.instanceMethod yX12_purse : Cond) ∈ tables_1 := it8 (m81 (m81 (m81 (m9 (mt (mt (mt mh)))))))
theorem tq_1774 : (.selects "TickPoolsModel" yX12_purse yX12_purse : Cond) ∈ tables_1 := it8 (m81 (m81 (m81 (m9 (mt (mt (mt (mt mh))))))))
theorem tq_1775 : ((Jvm.Cond.code ({ cls := "TickPoolsModel", name := "purse", desc := "(II)I" } : Jvm.MethodName) prog_14_method_101_code (3 : Nat) (Option.some Jvm.ClassFile.FieldType.int)) : Cond) ∈ tables_1 := it8 (m81 (m81 (m81 (m9 (mt (mt (mt (mt (mt mh)))))))))
theorem tq_1776 : (.methodLink "TickPoolsLaw" 44 yX12_pool : Cond) ∈ tables_1 := it8 (m81 (m81 (m81 (m9 (mt (mt (mt (mt (mt (mt mh))))))))))
theorem tq_1777 : (.instanceMethod yX12_pool : Cond) ∈ tables_1 := it8 (m81 (m81 (m81 (m9 (mt (mt (mt (mt (mt (mt (mt mh)))))))))))
theorem tq_1778 : (.selects "TickPoolsModel" yX12_pool yX12_pool : Cond) ∈ tables_1 := it8 (m81 (m81 (m81 (m9 (mt (mt (mt (mt (mt (mt (mt (mt mh))))))))))))
theorem tq_1779 : ((Jvm.Cond.code ({ cls := "TickPoolsModel", name := "pool", desc := "(II)I" } : Jvm.MethodName) prog_14_method_103_code (3 : Nat) (Option.some Jvm.ClassFile.FieldType.int)) : Cond) ∈ tables_1 := it8 (m81 (m81 (m81 (m9 (m9 mh)))))
theorem tq_1780 : (.constantLong "TickPoolsModel" 503 13 : Cond) ∈ tables_1 := it8 (m81 (m81 (m81 (m9 (m9 (mt mh))))))
theorem tq_1781 : (.methodLink "TickPoolsModel" 505 yX12_overIn : Cond) ∈ tables_1 := it8 (m81 (m81 (m81 (m9 (m9 (mt (mt mh)))))))
theorem tq_1782 : (.privateMethod yX12_overIn : Cond) ∈ tables_1 := it8 (m81 (m81 (m81 (m9 (m9 (mt (mt (mt mh))))))))
theorem tq_1783 : (.instanceMethod yX12_overIn : Cond) ∈ tables_1 := it8 (m81 (m81 (m81 (m9 (m9 (mt (mt (mt (mt mh)))))))))
theorem tq_1784 : ((Jvm.Cond.code ({ cls := "TickPoolsModel", name := "overIn", desc := "(II)J" } : Jvm.MethodName) prog_14_method_102_code (6 : Nat) (Option.some Jvm.ClassFile.FieldType.long)) : Cond) ∈ tables_1 := it8 (m81 (m81 (m81 (m9 (m9 (mt (mt (mt (mt (mt mh))))))))))
theorem tq_1785 : (.methodLink "TickPoolsLaw" 48 yX12_depth : Cond) ∈ tables_1 := it8 (m81 (m81 (m81 (m9 (m9 (mt (mt (mt (mt (mt (mt mh)))))))))))
theorem tq_1786 : (.instanceMethod yX12_depth : Cond) ∈ tables_1 := it8 (m81 (m81 (m81 (m9 (m9 (mt (mt (mt (mt (mt (mt (mt mh))))))))))))
theorem tq_1787 : (.selects "TickPoolsModel" yX12_depth yX12_depth : Cond) ∈ tables_1 := it8 (m81 (m81 (m81 (m9 (m9 (mt (mt (mt (mt (mt (mt (mt (mt mh)))))))))))))
theorem tq_1788 : ((Jvm.Cond.code ({ cls := "TickPoolsModel", name := "depth", desc := "(II)I" } : Jvm.MethodName) prog_14_method_104_code (3 : Nat) (Option.some Jvm.ClassFile.FieldType.int)) : Cond) ∈ tables_1 := it8 (m81 (m81 (m81 (m81 mh))))
theorem tq_1789 : (.constantLong "TickPoolsModel" 508 39 : Cond) ∈ tables_1 := it8 (m81 (m81 (m81 (m81 (mt mh)))))
theorem tq_1790 : (.methodLink "TickPoolsLaw" 52 yX12_stake : Cond) ∈ tables_1 := it8 (m81 (m81 (m81 (m81 (mt (mt mh))))))
theorem tq_1791 : (.instanceMethod yX12_stake : Cond) ∈ tables_1 := it8 (m81 (m81 (m81 (m81 (mt (mt (mt mh)))))))
theorem tq_1792 : (.selects "TickPoolsModel" yX12_stake yX12_stake : Cond) ∈ tables_1 := it8 (m81 (m81 (m81 (m81 (mt (mt (mt (mt mh))))))))
theorem tq_1793 : ((Jvm.Cond.code ({ cls := "TickPoolsModel", name := "stake", desc := "(II)I" } : Jvm.MethodName) prog_14_method_105_code (4 : Nat) (Option.some Jvm.ClassFile.FieldType.int)) : Cond) ∈ tables_1 := it8 (m81 (m81 (m81 (m81 (mt (mt (mt (mt (mt mh)))))))))
theorem tq_1794 : (.methodLink "TickPoolsLaw" 90 yX12_quoteIn : Cond) ∈ tables_1 := it8 (m81 (m81 (m81 (m81 (mt (mt (mt (mt (mt (mt mh))))))))))
theorem tq_1795 : (.instanceMethod yX12_quoteIn : Cond) ∈ tables_1 := it8 (m81 (m81 (m81 (m81 (mt (mt (mt (mt (mt (mt (mt mh)))))))))))
theorem tq_1796 : (.selects "TickPoolsModel" yX12_quoteIn yX12_quoteIn : Cond) ∈ tables_1 := it8 (m81 (m81 (m81 (m81 (mt (mt (mt (mt (mt (mt (mt (mt mh))))))))))))
theorem tq_1797 : ((Jvm.Cond.code ({ cls := "TickPoolsModel", name := "quoteIn", desc := "(IIIII)I" } : Jvm.MethodName) prog_14_method_106_code (7 : Nat) (Option.some Jvm.ClassFile.FieldType.int)) : Cond) ∈ tables_1 := it8 (m81 (m81 (m81 (m81 (m9 mh)))))
theorem tq_1798 : (.constantLong "TickPoolsModel" 510 4 : Cond) ∈ tables_1 := it8 (m81 (m81 (m81 (m81 (m9 (mt mh))))))
theorem tq_1799 : (.methodLink "TickPoolsLaw" 94 yX12_quoteOut : Cond) ∈ tables_1 := it8 (m81 (m81 (m81 (m81 (m9 (mt (mt mh)))))))
theorem tq_1800 : (.instanceMethod yX12_quoteOut : Cond) ∈ tables_1 := it8 (m81 (m81 (m81 (m81 (m9 (mt (mt (mt mh))))))))
theorem tq_1801 : (.selects "TickPoolsModel" yX12_quoteOut yX12_quoteOut : Cond) ∈ tables_1 := it8 (m81 (m81 (m81 (m81 (m9 (mt (mt (mt (mt mh)))))))))
theorem tq_1802 : ((Jvm.Cond.code ({ cls := "TickPoolsModel", name := "quoteOut", desc := "(IIII)I" } : Jvm.MethodName) prog_14_method_107_code (6 : Nat) (Option.some Jvm.ClassFile.FieldType.int)) : Cond) ∈ tables_1 := it8 (m81 (m81 (m81 (m81 (m9 (mt (mt (mt (mt (mt mh))))))))))
theorem tq_1803 : (.constantLong "TickPoolsModel" 512 3 : Cond) ∈ tables_1 := it8 (m81 (m81 (m81 (m81 (m9 (mt (mt (mt (mt (mt (mt mh)))))))))))
theorem tq_1804 : (.methodLink "TickPoolsLaw" 99 yX12_round : Cond) ∈ tables_1 := it8 (m81 (m81 (m81 (m81 (m9 (mt (mt (mt (mt (mt (mt (mt mh))))))))))))
theorem tq_1805 : (.instanceMethod yX12_round : Cond) ∈ tables_1 := it8 (m81 (m81 (m81 (m81 (m9 (mt (mt (mt (mt (mt (mt (mt (mt mh)))))))))))))
theorem tq_1806 : (.selects "TickPoolsModel" yX12_round yX12_round : Cond) ∈ tables_1 := it8 (m81 (m81 (m81 (m81 (m9 (m9 mh))))))
theorem tq_1807 : ((Jvm.Cond.code ({ cls := "TickPoolsModel", name := "round", desc := "(III)I" } : Jvm.MethodName) prog_14_method_108_code (6 : Nat) (Option.some Jvm.ClassFile.FieldType.int)) : Cond) ∈ tables_1 := it8 (m81 (m81 (m81 (m81 (m9 (m9 (mt mh)))))))
theorem tq_1808 : (.methodLink "TickPoolsLaw" 103 yX12_least : Cond) ∈ tables_1 := it8 (m81 (m81 (m81 (m81 (m9 (m9 (mt (mt mh))))))))
theorem tq_1809 : (.instanceMethod yX12_least : Cond) ∈ tables_1 := it8 (m81 (m81 (m81 (m81 (m9 (m9 (mt (mt (mt mh)))))))))
theorem tq_1810 : (.selects "TickPoolsModel" yX12_least yX12_least : Cond) ∈ tables_1 := it8 (m81 (m81 (m81 (m81 (m9 (m9 (mt (mt (mt (mt mh))))))))))
theorem tq_1811 : ((Jvm.Cond.code ({ cls := "TickPoolsModel", name := "least", desc := "(III)I" } : Jvm.MethodName) prog_14_method_113_code (6 : Nat) (Option.some Jvm.ClassFile.FieldType.int)) : Cond) ∈ tables_1 := it8 (m81 (m81 (m81 (m81 (m9 (m9 (mt (mt (mt (mt (mt mh)))))))))))
theorem tq_1812 : (.methodLink "TickPoolsModel" 527 yX12_leastTo : Cond) ∈ tables_1 := it8 (m81 (m81 (m81 (m81 (m9 (m9 (mt (mt (mt (mt (mt (mt mh))))))))))))
theorem tq_1813 : (.privateMethod yX12_leastTo : Cond) ∈ tables_1 := it8 (m81 (m81 (m81 (m81 (m9 (m9 (mt (mt (mt (mt (mt (mt (mt mh)))))))))))))
theorem tq_1814 : (.instanceMethod yX12_leastTo : Cond) ∈ tables_1 := it8 (m81 (m81 (m81 (m81 (m9 (m9 (mt (mt (mt (mt (mt (mt (mt (mt mh))))))))))))))
theorem tq_1815 : ((Jvm.Cond.code ({ cls := "TickPoolsModel", name := "leastTo", desc := "(III)J" } : Jvm.MethodName) prog_14_method_112_code (15 : Nat) (Option.some Jvm.ClassFile.FieldType.long)) : Cond) ∈ tables_1 := it8 (m81 (m81 (m81 (m81 (m81 mh)))))
theorem tq_1816 : (.methodLink "TickPoolsModel" 521 yX12_leastWithin : Cond) ∈ tables_1 := it8 (m81 (m81 (m81 (m81 (m81 (mt mh))))))
theorem tq_1817 : (.privateMethod yX12_leastWithin : Cond) ∈ tables_1 := it8 (m81 (m81 (m81 (m81 (m81 (mt (mt mh)))))))
theorem tq_1818 : (.instanceMethod yX12_leastWithin : Cond) ∈ tables_1 := it8 (m81 (m81 (m81 (m81 (m81 (mt (mt (mt mh))))))))
theorem tq_1819 : ((Jvm.Cond.code ({ cls := "TickPoolsModel", name := "leastWithin", desc := "(IIIIJ)J" } : Jvm.MethodName) prog_14_method_111_code (13 : Nat) (Option.some Jvm.ClassFile.FieldType.long)) : Cond) ∈ tables_1 := it8 (m81 (m81 (m81 (m81 (m81 (mt (mt (mt (mt mh)))))))))
theorem tq_1820 : (.methodLink "TickPoolsModel" 514 yX12_zoneWithin : Cond) ∈ tables_1 := it8 (m81 (m81 (m81 (m81 (m81 (mt (mt (mt (mt (mt mh))))))))))
theorem tq_1821 : (.privateMethod yX12_zoneWithin : Cond) ∈ tables_1 := it8 (m81 (m81 (m81 (m81 (m81 (mt (mt (mt (mt (mt (mt mh)))))))))))
theorem tq_1822 : (.instanceMethod yX12_zoneWithin : Cond) ∈ tables_1 := it8 (m81 (m81 (m81 (m81 (m81 (mt (mt (mt (mt (mt (mt (mt mh))))))))))))
theorem tq_1823 : ((Jvm.Cond.code ({ cls := "TickPoolsModel", name := "zoneWithin", desc := "(IIIJ)I" } : Jvm.MethodName) prog_14_method_110_code (6 : Nat) (Option.some Jvm.ClassFile.FieldType.int)) : Cond) ∈ tables_1 := it8 (m81 (m81 (m81 (m81 (m81 (mt (mt (mt (mt (mt (mt (mt (mt mh)))))))))))))
theorem tq_1824 : (.methodLink "TickPoolsModel" 518 yX12_isThere : Cond) ∈ tables_1 := it8 (m81 (m81 (m81 (m81 (m81 (m9 mh))))))
theorem tq_1825 : (.static yX12_isThere : Cond) ∈ tables_1 := it8 (m81 (m81 (m81 (m81 (m81 (m9 (mt mh)))))))
theorem tq_1826 : ((Jvm.Cond.code ({ cls := "TickPoolsModel", name := "isThere", desc := "(III)Z" } : Jvm.MethodName) prog_14_method_109_code (3 : Nat) (Option.some Jvm.ClassFile.FieldType.boolean)) : Cond) ∈ tables_1 := it8 (m81 (m81 (m81 (m81 (m81 (m9 (mt (mt mh))))))))
theorem tq_1827 : (.constantLong "TickPoolsModel" 525 10000000 : Cond) ∈ tables_1 := it8 (m81 (m81 (m81 (m81 (m81 (m9 (mt (mt (mt mh)))))))))
theorem tq_1828 : (.methodLink "TickPoolsLaw" 107 yX12_route : Cond) ∈ tables_1 := it8 (m81 (m81 (m81 (m81 (m81 (m9 (mt (mt (mt (mt mh))))))))))
theorem tq_1829 : (.instanceMethod yX12_route : Cond) ∈ tables_1 := it8 (m81 (m81 (m81 (m81 (m81 (m9 (mt (mt (mt (mt (mt mh)))))))))))
theorem tq_1830 : (.selects "TickPoolsModel" yX12_route yX12_route : Cond) ∈ tables_1 := it8 (m81 (m81 (m81 (m81 (m81 (m9 (mt (mt (mt (mt (mt (mt mh))))))))))))
theorem tq_1831 : ((Jvm.Cond.code ({ cls := "TickPoolsModel", name := "route", desc := "(IIII)I" } : Jvm.MethodName) prog_14_method_120_code (5 : Nat) (Option.some Jvm.ClassFile.FieldType.int)) : Cond) ∈ tables_1 := it8 (m81 (m81 (m81 (m81 (m81 (m9 (mt (mt (mt (mt (mt (mt (mt mh)))))))))))))
theorem tq_1832 : (.methodLink "TickPoolsModel" 549 yX12_isWay : Cond) ∈ tables_1 := it8 (m81 (m81 (m81 (m81 (m81 (m9 (mt (mt (mt (mt (mt (mt (mt (mt mh))))))))))))))
theorem tq_1833 : (.privateMethod yX12_isWay : Cond) ∈ tables_1 := it8 (m81 (m81 (m81 (m81 (m81 (m9 (m9 mh)))))))
theorem tq_1834 : (.instanceMethod yX12_isWay : Cond) ∈ tables_1 := it8 (m81 (m81 (m81 (m81 (m81 (m9 (m9 (mt mh))))))))
theorem tq_1835 : ((Jvm.Cond.code ({ cls := "TickPoolsModel", name := "isWay", desc := "(III)Z" } : Jvm.MethodName) prog_14_method_119_code (4 : Nat) (Option.some Jvm.ClassFile.FieldType.boolean)) : Cond) ∈ tables_1 := it8 (m81 (m81 (m81 (m81 (m81 (m9 (m9 (mt (mt mh)))))))))
theorem tq_1836 : (.methodLink "TickPoolsModel" 552 yX12_routes : Cond) ∈ tables_1 := it8 (m81 (m81 (m81 (m81 (m81 (m9 (m9 (mt (mt (mt mh))))))))))
theorem tq_1837 : (.privateMethod yX12_routes : Cond) ∈ tables_1 := it8 (m81 (m81 (m81 (m81 (m81 (m9 (m9 (mt (mt (mt (mt mh)))))))))))
theorem tq_1838 : (.instanceMethod yX12_routes : Cond) ∈ tables_1 := it8 (m81 (m81 (m81 (m81 (m81 (m9 (m9 (mt (mt (mt (mt (mt mh))))))))))))
theorem tq_1839 : ((Jvm.Cond.code ({ cls := "TickPoolsModel", name := "routes", desc := "(IIJ)V" } : Jvm.MethodName) prog_14_method_118_code (8 : Nat) (Option.none : Option Jvm.ClassFile.FieldType)) : Cond) ∈ tables_1 := it8 (m81 (m81 (m81 (m81 (m81 (m9 (m9 (mt (mt (mt (mt (mt (mt mh)))))))))))))
theorem tq_1840 : (.methodLink "TickPoolsModel" 545 yX12_along : Cond) ∈ tables_1 := it8 (m81 (m81 (m81 (m81 (m81 (m9 (m9 (mt (mt (mt (mt (mt (mt (mt mh))))))))))))))
theorem tq_1841 : (.privateMethod yX12_along : Cond) ∈ tables_1 := it8 (m81 (m81 (m81 (m81 (m81 (m9 (m9 (mt (mt (mt (mt (mt (mt (mt (mt mh)))))))))))))))
theorem tq_1842 : (.instanceMethod yX12_along : Cond) ∈ tables_1 := it8 (m81 (m81 (m81 (m81 (m81 (m81 mh))))))
theorem tq_1843 : ((Jvm.Cond.code ({ cls := "TickPoolsModel", name := "along", desc := "(IIIJ)J" } : Jvm.MethodName) prog_14_method_117_code (15 : Nat) (Option.some Jvm.ClassFile.FieldType.long)) : Cond) ∈ tables_1 := it8 (m81 (m81 (m81 (m81 (m81 (m81 (mt mh)))))))
theorem tq_1844 : (.methodLink "TickPoolsModel" 530 yX12_lengthOf : Cond) ∈ tables_1 := it8 (m81 (m81 (m81 (m81 (m81 (m81 (mt (mt mh))))))))
theorem tq_1845 : (.static yX12_lengthOf : Cond) ∈ tables_1 := it8 (m81 (m81 (m81 (m81 (m81 (m81 (mt (mt (mt mh)))))))))
theorem tq_1846 : ((Jvm.Cond.code ({ cls := "TickPoolsModel", name := "lengthOf", desc := "(I)I" } : Jvm.MethodName) prog_14_method_114_code (1 : Nat) (Option.some Jvm.ClassFile.FieldType.int)) : Cond) ∈ tables_1 := it8 (m81 (m81 (m81 (m81 (m81 (m81 (mt (mt (mt (mt mh))))))))))
theorem tq_1847 : (.methodLink "TickPoolsModel" 533 yX12_poolIn : Cond) ∈ tables_1 := it8 (m81 (m81 (m81 (m81 (m81 (m81 (mt (mt (mt (mt (mt mh)))))))))))
theorem tq_1848 : (.static yX12_poolIn : Cond) ∈ tables_1 := it8 (m81 (m81 (m81 (m81 (m81 (m81 (mt (mt (mt (mt (mt (mt mh))))))))))))
theorem tq_1849 : ((Jvm.Cond.code ({ cls := "TickPoolsModel", name := "poolIn", desc := "(II)I" } : Jvm.MethodName) prog_14_method_115_code (4 : Nat) (Option.some Jvm.ClassFile.FieldType.int)) : Cond) ∈ tables_1 := it8 (m81 (m81 (m81 (m81 (m81 (m81 (mt (mt (mt (mt (mt (mt (mt mh)))))))))))))
theorem tq_1850 : (.methodLink "TickPoolsModel" 536 yX12_hop : Cond) ∈ tables_1 := it8 (m81 (m81 (m81 (m81 (m81 (m81 (mt (mt (mt (mt (mt (mt (mt (mt mh))))))))))))))
theorem tq_1851 : (.privateMethod yX12_hop : Cond) ∈ tables_1 := it8 (m81 (m81 (m81 (m81 (m81 (m81 (m9 mh)))))))
theorem tq_1852 : (.instanceMethod yX12_hop : Cond) ∈ tables_1 := it8 (m81 (m81 (m81 (m81 (m81 (m81 (m9 (mt mh))))))))
theorem tq_1853 : ((Jvm.Cond.code ({ cls := "TickPoolsModel", name := "hop", desc := "(IIJ)J" } : Jvm.MethodName) prog_14_method_116_code (5 : Nat) (Option.some Jvm.ClassFile.FieldType.long)) : Cond) ∈ tables_1 := it8 (m81 (m81 (m81 (m81 (m81 (m81 (m9 (mt (mt mh)))))))))
theorem tq_1854 : (.methodLink "TickPoolsLaw" 111 yX12_parts : Cond) ∈ tables_1 := it8 (m81 (m81 (m81 (m81 (m81 (m81 (m9 (mt (mt (mt mh))))))))))
theorem tq_1855 : (.instanceMethod yX12_parts : Cond) ∈ tables_1 := it8 (m81 (m81 (m81 (m81 (m81 (m81 (m9 (mt (mt (mt (mt mh)))))))))))
theorem tq_1856 : (.selects "TickPoolsModel" yX12_parts yX12_parts : Cond) ∈ tables_1 := it8 (m81 (m81 (m81 (m81 (m81 (m81 (m9 (mt (mt (mt (mt (mt mh))))))))))))
theorem tq_1857 : ((Jvm.Cond.code ({ cls := "TickPoolsModel", name := "parts", desc := "(IIII)I" } : Jvm.MethodName) prog_14_method_123_code (6 : Nat) (Option.some Jvm.ClassFile.FieldType.int)) : Cond) ∈ tables_1 := it8 (m81 (m81 (m81 (m81 (m81 (m81 (m9 (mt (mt (mt (mt (mt (mt mh)))))))))))))
theorem tq_1858 : (.methodLink "TickPoolsModel" 564 yX12_goesByParts : Cond) ∈ tables_1 := it8 (m81 (m81 (m81 (m81 (m81 (m81 (m9 (mt (mt (mt (mt (mt (mt (mt mh))))))))))))))
theorem tq_1859 : (.privateMethod yX12_goesByParts : Cond) ∈ tables_1 := it8 (m81 (m81 (m81 (m81 (m81 (m81 (m9 (mt (mt (mt (mt (mt (mt (mt (mt mh)))))))))))))))
theorem tq_1860 : (.instanceMethod yX12_goesByParts : Cond) ∈ tables_1 := it8 (m81 (m81 (m81 (m81 (m81 (m81 (m9 (m9 mh))))))))
theorem tq_1861 : ((Jvm.Cond.code ({ cls := "TickPoolsModel", name := "goesByParts", desc := "(IIJ)Z" } : Jvm.MethodName) prog_14_method_122_code (9 : Nat) (Option.some Jvm.ClassFile.FieldType.boolean)) : Cond) ∈ tables_1 := it8 (m81 (m81 (m81 (m81 (m81 (m81 (m9 (m9 (mt mh)))))))))
theorem tq_1862 : (.methodLink "TickPoolsModel" 561 yX12_goesAlong : Cond) ∈ tables_1 := it8 (m81 (m81 (m81 (m81 (m81 (m81 (m9 (m9 (mt (mt mh))))))))))
theorem tq_1863 : (.privateMethod yX12_goesAlong : Cond) ∈ tables_1 := it8 (m81 (m81 (m81 (m81 (m81 (m81 (m9 (m9 (mt (mt (mt mh)))))))))))
theorem tq_1864 : (.instanceMethod yX12_goesAlong : Cond) ∈ tables_1 := it8 (m81 (m81 (m81 (m81 (m81 (m81 (m9 (m9 (mt (mt (mt (mt mh))))))))))))
theorem tq_1865 : ((Jvm.Cond.code ({ cls := "TickPoolsModel", name := "goesAlong", desc := "(IIJ)V" } : Jvm.MethodName) prog_14_method_121_code (11 : Nat) (Option.none : Option Jvm.ClassFile.FieldType)) : Cond) ∈ tables_1 := it8 (m81 (m81 (m81 (m81 (m81 (m81 (m9 (m9 (mt (mt (mt (mt (mt mh)))))))))))))
theorem tq_1866 : (.methodLink "TickPoolsLaw" 115 yX12_ring : Cond) ∈ tables_1 := it8 (m81 (m81 (m81 (m81 (m81 (m81 (m9 (m9 (mt (mt (mt (mt (mt (mt mh))))))))))))))
theorem tq_1867 : (.instanceMethod yX12_ring : Cond) ∈ tables_1 := it8 (m81 (m81 (m81 (m81 (m81 (m81 (m9 (m9 (mt (mt (mt (mt (mt (mt (mt mh)))))))))))))))
theorem tq_1868 : (.selects "TickPoolsModel" yX12_ring yX12_ring : Cond) ∈ tables_1 := it8 (m81 (m81 (m81 (m81 (m81 (m81 (m9 (m9 (mt (mt (mt (mt (mt (mt (mt (mt mh))))))))))))))))
theorem tq_1869 : ((Jvm.Cond.code ({ cls := "TickPoolsModel", name := "ring", desc := "(II)I" } : Jvm.MethodName) prog_14_method_124_code (11 : Nat) (Option.some Jvm.ClassFile.FieldType.int)) : Cond) ∈ tables_1 := it8 (m81 (m81 (m81 (m81 (m81 (m81 (m81 mh)))))))
theorem tq_1870 : (.constantLong "TickPoolsModel" 568 5 : Cond) ∈ tables_1 := it8 (m81 (m81 (m81 (m81 (m81 (m81 (m81 (mt mh))))))))
theorem tq_1871 : (.methodLink "TickPoolsLaw" 119 yX12_total : Cond) ∈ tables_1 := it8 (m81 (m81 (m81 (m81 (m81 (m81 (m81 (mt (mt mh)))))))))
theorem tq_1872 : (.instanceMethod yX12_total : Cond) ∈ tables_1 := it8 (m81 (m81 (m81 (m81 (m81 (m81 (m81 (mt (mt (mt mh))))))))))
theorem tq_1873 : (.selects "TickPoolsModel" yX12_total yX12_total : Cond) ∈ tables_1 := it8 (m81 (m81 (m81 (m81 (m81 (m81 (m81 (mt (mt (mt (mt mh)))))))))))
theorem tq_1874 : ((Jvm.Cond.code ({ cls := "TickPoolsModel", name := "total", desc := "(I)I" } : Jvm.MethodName) prog_14_method_125_code (6 : Nat) (Option.some Jvm.ClassFile.FieldType.int)) : Cond) ∈ tables_1 := it8 (m81 (m81 (m81 (m81 (m81 (m81 (m81 (mt (mt (mt (mt (mt mh))))))))))))
theorem tq_1875 : (.methodLink "TickPoolsLaw" 123 yX12_count : Cond) ∈ tables_1 := it8 (m81 (m81 (m81 (m81 (m81 (m81 (m81 (mt (mt (mt (mt (mt (mt mh)))))))))))))
theorem tq_1876 : (.instanceMethod yX12_count : Cond) ∈ tables_1 := it8 (m81 (m81 (m81 (m81 (m81 (m81 (m81 (mt (mt (mt (mt (mt (mt (mt mh))))))))))))))
theorem tq_1877 : (.selects "TickPoolsModel" yX12_count yX12_count : Cond) ∈ tables_1 := it8 (m81 (m81 (m81 (m81 (m81 (m81 (m81 (mt (mt (mt (mt (mt (mt (mt (mt mh)))))))))))))))
theorem tq_1878 : ((Jvm.Cond.code ({ cls := "TickPoolsModel", name := "count", desc := "(I)I" } : Jvm.MethodName) prog_14_method_126_code (2 : Nat) (Option.some Jvm.ClassFile.FieldType.int)) : Cond) ∈ tables_1 := it8 (m81 (m81 (m81 (m81 (m81 (m81 (m81 (m9 mh))))))))
theorem tq_1879 : (.fieldLink "java/lang/String" 9 "java/lang/String" "value" "[B" : Cond) ∈ tables_1 := it8 (m81 (m81 (m81 (m81 (m81 (m81 (m81 (m9 (mt mh)))))))))
theorem tq_1880 : (.fieldLink "java/lang/String" 15 "java/lang/String" "coder" "B" : Cond) ∈ tables_1 := it8 (m81 (m81 (m81 (m81 (m81 (m81 (m81 (m9 (mt (mt mh))))))))))
theorem lw_p0 : lw_okq (yX3_readClause, 2) := ⟨⟨by decide +kernel, by decide +kernel⟩, tq_290, tq_518, tq_519⟩
theorem lw_p1 : lw_okq (yX9_byteAt, 7) := ⟨⟨by decide +kernel, by decide +kernel⟩, tq_28, tq_530, tq_531⟩
theorem lw_p2 : lw_okq (yX3_readSizes, 2) := ⟨⟨by decide +kernel, by decide +kernel⟩, tq_290, tq_597, tq_598⟩
theorem lw_p3 : lw_okq (yX3_readPool, 2) := ⟨⟨by decide +kernel, by decide +kernel⟩, tq_290, tq_608, tq_609⟩
theorem lw_p4 : lw_okq (yX3_readPurse, 2) := ⟨⟨by decide +kernel, by decide +kernel⟩, tq_290, tq_638, tq_639⟩
theorem lw_p5 : lw_okq (yX6_readStep, 5) := ⟨⟨by decide +kernel, by decide +kernel⟩, tq_303, tq_693, tq_694⟩
theorem lw_p6 : lw_okq (yX6_kindOfWord, 5) := ⟨⟨by decide +kernel, by decide +kernel⟩, tq_303, tq_698, tq_699⟩
theorem lw_p7 : lw_okq (yX6_readRange, 5) := ⟨⟨by decide +kernel, by decide +kernel⟩, tq_303, tq_711, tq_712⟩
theorem lw_p8 : lw_okq (yX6_readAmount, 5) := ⟨⟨by decide +kernel, by decide +kernel⟩, tq_303, tq_717, tq_718⟩
theorem lw_p9 : lw_okq (yX6_readLeast, 5) := ⟨⟨by decide +kernel, by decide +kernel⟩, tq_303, tq_721, tq_722⟩
theorem lw_p10 : lw_okq (yX6_readPoolAndSide, 5) := ⟨⟨by decide +kernel, by decide +kernel⟩, tq_303, tq_726, tq_727⟩
theorem lw_p11 : lw_okq (yX6_readMuch, 5) := ⟨⟨by decide +kernel, by decide +kernel⟩, tq_303, tq_730, tq_731⟩
theorem lw_p12 : lw_okq (yX6_openBracket, 5) := ⟨⟨by decide +kernel, by decide +kernel⟩, tq_303, tq_746, tq_747⟩
theorem lw_p13 : lw_okq (yX6_closeBrackets, 5) := ⟨⟨by decide +kernel, by decide +kernel⟩, tq_303, tq_752, tq_753⟩
theorem lw_p14 : lw_okq (yX5_closeBracket, 13) := ⟨⟨by decide +kernel, by decide +kernel⟩, tq_375, tq_769, tq_770⟩
theorem lw_p15 : lw_okq (yX5_giveBack, 13) := ⟨⟨by decide +kernel, by decide +kernel⟩, tq_375, tq_773, tq_774⟩
theorem lw_p16 : lw_okq (yX5_setLocked, 13) := ⟨⟨by decide +kernel, by decide +kernel⟩, tq_375, tq_781, tq_782⟩
theorem lw_p17 : lw_okq (yX5_fail, 13) := ⟨⟨by decide +kernel, by decide +kernel⟩, tq_375, tq_794, tq_795⟩
theorem lw_p18 : lw_okq (yX5_doIn, 13) := ⟨⟨by decide +kernel, by decide +kernel⟩, tq_375, tq_822, tq_823⟩
theorem lw_p19 : lw_okq (yX5_isLocked, 13) := ⟨⟨by decide +kernel, by decide +kernel⟩, tq_375, tq_826, tq_827⟩
theorem lw_p20 : lw_okq (yX5_muchOf, 13) := ⟨⟨by decide +kernel, by decide +kernel⟩, tq_375, tq_830, tq_831⟩
theorem lw_p21 : lw_okq (yX10_start, 14) := ⟨⟨by decide +kernel, by decide +kernel⟩, tq_231, tq_841, tq_842⟩
theorem lw_p22 : lw_okq (yX10_pourStep, 14) := ⟨⟨by decide +kernel, by decide +kernel⟩, tq_231, tq_855, tq_856⟩
theorem lw_p23 : lw_okq (yX10_aimBefore, 14) := ⟨⟨by decide +kernel, by decide +kernel⟩, tq_231, tq_859, tq_860⟩
theorem lw_p24 : lw_okq (yX10_takeIn, 14) := ⟨⟨by decide +kernel, by decide +kernel⟩, tq_231, tq_882, tq_883⟩
theorem lw_p25 : lw_okq (yX10_arrive, 14) := ⟨⟨by decide +kernel, by decide +kernel⟩, tq_231, tq_887, tq_888⟩
theorem lw_p26 : lw_okq (yX10_zoneShortOf, 14) := ⟨⟨by decide +kernel, by decide +kernel⟩, tq_231, tq_891, tq_892⟩
theorem lw_p27 : lw_okq (yX2_remove, 9) := ⟨⟨by decide +kernel, by decide +kernel⟩, tq_62, tq_923, tq_924⟩
theorem lw_p28 : lw_okq (yX10_finish, 14) := ⟨⟨by decide +kernel, by decide +kernel⟩, tq_231, tq_927, tq_928⟩
theorem lw_p29 : lw_okq (yX5_doOut, 13) := ⟨⟨by decide +kernel, by decide +kernel⟩, tq_375, tq_933, tq_934⟩
theorem lw_p30 : lw_okq (yX10_drainStep, 14) := ⟨⟨by decide +kernel, by decide +kernel⟩, tq_231, tq_948, tq_949⟩
theorem lw_p31 : lw_okq (yX5_doDrop, 13) := ⟨⟨by decide +kernel, by decide +kernel⟩, tq_375, tq_978, tq_979⟩
theorem lw_p32 : lw_okq (yX5_doLend, 13) := ⟨⟨by decide +kernel, by decide +kernel⟩, tq_375, tq_989, tq_990⟩
theorem lw_p33 : lw_okq (yX5_canOpen, 13) := ⟨⟨by decide +kernel, by decide +kernel⟩, tq_375, tq_994, tq_995⟩
theorem lw_p34 : lw_okq (yX5_openBracket, 13) := ⟨⟨by decide +kernel, by decide +kernel⟩, tq_375, tq_998, tq_999⟩
theorem lw_p35 : lw_okq (yX5_doTimes, 13) := ⟨⟨by decide +kernel, by decide +kernel⟩, tq_375, tq_1002, tq_1003⟩
theorem lw_p36 : lw_okq (yX11_canAsk, 8) := ⟨⟨by decide +kernel, by decide +kernel⟩, tq_20, tq_1097, tq_1098⟩
theorem lw_p37 : lw_okq (yX11_comesTo, 8) := ⟨⟨by decide +kernel, by decide +kernel⟩, tq_20, tq_1114, tq_1115⟩
theorem lw_p38 : lw_okq (yX11_canWander, 8) := ⟨⟨by decide +kernel, by decide +kernel⟩, tq_20, tq_1122, tq_1123⟩
theorem lw_p39 : lw_okq (yX1_otherThing, 9) := ⟨⟨by decide +kernel, by decide +kernel⟩, tq_424, tq_1135, tq_1136⟩
theorem lw_p40 : lw_okq (yX1_wasAt, 9) := ⟨⟨by decide +kernel, by decide +kernel⟩, tq_424, tq_1145, tq_1146⟩
theorem lw_p41 : lw_okq (yX1_trial, 9) := ⟨⟨by decide +kernel, by decide +kernel⟩, tq_424, tq_1149, tq_1150⟩
theorem lw_p42 : lw_okq (yX1_consider, 9) := ⟨⟨by decide +kernel, by decide +kernel⟩, tq_424, tq_1155, tq_1156⟩
theorem lw_p43 : lw_okq (yX12_readsAll, 55) := ⟨⟨by decide +kernel, by decide +kernel⟩, tq_1194, tq_1393, tq_1394⟩
theorem lw_p44 : lw_okq (yX12_readsClause, 55) := ⟨⟨by decide +kernel, by decide +kernel⟩, tq_1194, tq_1397, tq_1398⟩
theorem lw_p45 : lw_okq (yX12_wordHere, 55) := ⟨⟨by decide +kernel, by decide +kernel⟩, tq_1194, tq_1401, tq_1402⟩
theorem lw_p46 : lw_okq (yX12_next, 55) := ⟨⟨by decide +kernel, by decide +kernel⟩, tq_1194, tq_1405, tq_1406⟩
theorem lw_p47 : lw_okq (yX12_byteAt, 55) := ⟨⟨by decide +kernel, by decide +kernel⟩, tq_1194, tq_1409, tq_1410⟩
theorem lw_p48 : lw_okq (yX12_fails, 55) := ⟨⟨by decide +kernel, by decide +kernel⟩, tq_1194, tq_1416, tq_1417⟩
theorem lw_p49 : lw_okq (yX12_readsMarket, 55) := ⟨⟨by decide +kernel, by decide +kernel⟩, tq_1194, tq_1420, tq_1421⟩
theorem lw_p50 : lw_okq (yX12_passWord, 55) := ⟨⟨by decide +kernel, by decide +kernel⟩, tq_1194, tq_1424, tq_1425⟩
theorem lw_p51 : lw_okq (yX12_reads, 55) := ⟨⟨by decide +kernel, by decide +kernel⟩, tq_1194, tq_1428, tq_1429⟩
theorem lw_p52 : lw_okq (yX12_readsPool, 55) := ⟨⟨by decide +kernel, by decide +kernel⟩, tq_1194, tq_1435, tq_1436⟩
theorem lw_p53 : lw_okq (yX12_readsPurse, 55) := ⟨⟨by decide +kernel, by decide +kernel⟩, tq_1194, tq_1439, tq_1440⟩
theorem lw_p54 : lw_okq (yX12_takesSign, 55) := ⟨⟨by decide +kernel, by decide +kernel⟩, tq_1194, tq_1444, tq_1445⟩
theorem lw_p55 : lw_okq (yX12_begins, 55) := ⟨⟨by decide +kernel, by decide +kernel⟩, tq_1194, tq_1448, tq_1449⟩
theorem lw_p56 : lw_okq (yX12_setPool, 55) := ⟨⟨by decide +kernel, by decide +kernel⟩, tq_1194, tq_1452, tq_1453⟩
theorem lw_p57 : lw_okq (yX12_zoneOf, 55) := ⟨⟨by decide +kernel, by decide +kernel⟩, tq_1194, tq_1456, tq_1457⟩
theorem lw_p58 : lw_okq (yX12_adds, 55) := ⟨⟨by decide +kernel, by decide +kernel⟩, tq_1194, tq_1464, tq_1465⟩
theorem lw_p59 : lw_okq (yX12_isPerson, 55) := ⟨⟨by decide +kernel, by decide +kernel⟩, tq_1194, tq_1468, tq_1469⟩
theorem lw_p60 : lw_okq (yX12_isPool, 55) := ⟨⟨by decide +kernel, by decide +kernel⟩, tq_1194, tq_1472, tq_1473⟩
theorem lw_p61 : lw_okq (yX12_areTicks, 55) := ⟨⟨by decide +kernel, by decide +kernel⟩, tq_1194, tq_1476, tq_1477⟩
theorem lw_p62 : lw_okq (yX12_stakeOf, 55) := ⟨⟨by decide +kernel, by decide +kernel⟩, tq_1194, tq_1483, tq_1484⟩
theorem lw_p63 : lw_okq (yX12_stakes, 55) := ⟨⟨by decide +kernel, by decide +kernel⟩, tq_1194, tq_1487, tq_1488⟩
theorem lw_p64 : lw_okq (yX12_ofStake, 55) := ⟨⟨by decide +kernel, by decide +kernel⟩, tq_1194, tq_1491, tq_1492⟩
theorem lw_p65 : lw_okq (yX12_liesIn, 55) := ⟨⟨by decide +kernel, by decide +kernel⟩, tq_1194, tq_1496, tq_1497⟩
theorem lw_p66 : lw_okq (yX12_zoneNow, 55) := ⟨⟨by decide +kernel, by decide +kernel⟩, tq_1194, tq_1500, tq_1501⟩
theorem lw_p67 : lw_okq (yX12_ofPool, 55) := ⟨⟨by decide +kernel, by decide +kernel⟩, tq_1194, tq_1504, tq_1505⟩
theorem lw_p68 : lw_okq (yX12_thingOf, 55) := ⟨⟨by decide +kernel, by decide +kernel⟩, tq_1194, tq_1518, tq_1519⟩
theorem lw_p69 : lw_okq (yX12_inPurse, 55) := ⟨⟨by decide +kernel, by decide +kernel⟩, tq_1194, tq_1522, tq_1523⟩
theorem lw_p70 : lw_okq (yX12_setStake, 55) := ⟨⟨by decide +kernel, by decide +kernel⟩, tq_1194, tq_1526, tq_1527⟩
theorem lw_p71 : lw_okq (yX12_settles, 55) := ⟨⟨by decide +kernel, by decide +kernel⟩, tq_1194, tq_1530, tq_1531⟩
theorem lw_p72 : lw_okq (yX12_owedTo, 55) := ⟨⟨by decide +kernel, by decide +kernel⟩, tq_1194, tq_1534, tq_1535⟩
theorem lw_p73 : lw_okq (yX12_goesOut, 55) := ⟨⟨by decide +kernel, by decide +kernel⟩, tq_1194, tq_1539, tq_1540⟩
theorem lw_p74 : lw_okq (yX12_morePool, 55) := ⟨⟨by decide +kernel, by decide +kernel⟩, tq_1194, tq_1543, tq_1544⟩
theorem lw_p75 : lw_okq (yX12_morePurse, 55) := ⟨⟨by decide +kernel, by decide +kernel⟩, tq_1194, tq_1547, tq_1548⟩
theorem lw_p76 : lw_okq (yX12_isStake, 55) := ⟨⟨by decide +kernel, by decide +kernel⟩, tq_1194, tq_1555, tq_1556⟩
theorem lw_p77 : lw_okq (yX12_takesOut, 55) := ⟨⟨by decide +kernel, by decide +kernel⟩, tq_1194, tq_1559, tq_1560⟩
theorem lw_p78 : lw_okq (yX12_paysOut, 55) := ⟨⟨by decide +kernel, by decide +kernel⟩, tq_1194, tq_1563, tq_1564⟩
theorem lw_p79 : lw_okq (yX12_markOf, 55) := ⟨⟨by decide +kernel, by decide +kernel⟩, tq_1194, tq_1579, tq_1580⟩
theorem lw_p80 : lw_okq (yX12_sumAt, 55) := ⟨⟨by decide +kernel, by decide +kernel⟩, tq_1194, tq_1583, tq_1584⟩
theorem lw_p81 : lw_okq (yX12_marks, 55) := ⟨⟨by decide +kernel, by decide +kernel⟩, tq_1194, tq_1587, tq_1588⟩
theorem lw_p82 : lw_okq (yX12_marksNow, 55) := ⟨⟨by decide +kernel, by decide +kernel⟩, tq_1194, tq_1604, tq_1605⟩
theorem lw_p83 : lw_okq (yX12_swaps, 55) := ⟨⟨by decide +kernel, by decide +kernel⟩, tq_1194, tq_1609, tq_1610⟩
theorem lw_p84 : lw_okq (yX12_steps, 55) := ⟨⟨by decide +kernel, by decide +kernel⟩, tq_1194, tq_1613, tq_1614⟩
theorem lw_p85 : lw_okq (yX12_aimOf, 55) := ⟨⟨by decide +kernel, by decide +kernel⟩, tq_1194, tq_1617, tq_1618⟩
theorem lw_p86 : lw_okq (yX12_depthOf, 55) := ⟨⟨by decide +kernel, by decide +kernel⟩, tq_1194, tq_1621, tq_1622⟩
theorem lw_p87 : lw_okq (yX12_isAcross, 55) := ⟨⟨by decide +kernel, by decide +kernel⟩, tq_1194, tq_1625, tq_1626⟩
theorem lw_p88 : lw_okq (yX12_feeOf, 55) := ⟨⟨by decide +kernel, by decide +kernel⟩, tq_1194, tq_1629, tq_1630⟩
theorem lw_p89 : lw_okq (yX12_wantedTo, 55) := ⟨⟨by decide +kernel, by decide +kernel⟩, tq_1194, tq_1634, tq_1635⟩
theorem lw_p90 : lw_okq (yX12_rootByOut, 55) := ⟨⟨by decide +kernel, by decide +kernel⟩, tq_1194, tq_1638, tq_1639⟩
theorem lw_p91 : lw_okq (yX12_rootBy, 55) := ⟨⟨by decide +kernel, by decide +kernel⟩, tq_1194, tq_1642, tq_1643⟩
theorem lw_p92 : lw_okq (yX12_feeUpon, 55) := ⟨⟨by decide +kernel, by decide +kernel⟩, tq_1194, tq_1646, tq_1647⟩
theorem lw_p93 : lw_okq (yX12_shares, 55) := ⟨⟨by decide +kernel, by decide +kernel⟩, tq_1194, tq_1650, tq_1651⟩
theorem lw_p94 : lw_okq (yX12_zoneBy, 55) := ⟨⟨by decide +kernel, by decide +kernel⟩, tq_1194, tq_1655, tq_1656⟩
theorem lw_p95 : lw_okq (yX12_drops, 55) := ⟨⟨by decide +kernel, by decide +kernel⟩, tq_1194, tq_1659, tq_1660⟩
theorem lw_p96 : lw_okq (yX12_trades, 55) := ⟨⟨by decide +kernel, by decide +kernel⟩, tq_1194, tq_1663, tq_1664⟩
theorem lw_p97 : lw_okq (yX12_keeps, 55) := ⟨⟨by decide +kernel, by decide +kernel⟩, tq_1194, tq_1671, tq_1672⟩
theorem lw_p98 : lw_okq (yX12_laysBack, 55) := ⟨⟨by decide +kernel, by decide +kernel⟩, tq_1194, tq_1678, tq_1679⟩
theorem lw_p99 : lw_okq (yX12_readsBundle, 55) := ⟨⟨by decide +kernel, by decide +kernel⟩, tq_1194, tq_1686, tq_1687⟩
theorem lw_p100 : lw_okq (yX12_readsStep, 55) := ⟨⟨by decide +kernel, by decide +kernel⟩, tq_1194, tq_1690, tq_1691⟩
theorem lw_p101 : lw_okq (yX12_readsNumbers, 55) := ⟨⟨by decide +kernel, by decide +kernel⟩, tq_1194, tq_1697, tq_1698⟩
theorem lw_p102 : lw_okq (yX12_readsMuch, 55) := ⟨⟨by decide +kernel, by decide +kernel⟩, tq_1194, tq_1701, tq_1702⟩
theorem lw_p103 : lw_okq (yX12_opens, 55) := ⟨⟨by decide +kernel, by decide +kernel⟩, tq_1194, tq_1706, tq_1707⟩
theorem lw_p104 : lw_okq (yX12_goesOn, 55) := ⟨⟨by decide +kernel, by decide +kernel⟩, tq_1194, tq_1710, tq_1711⟩
theorem lw_p105 : lw_okq (yX12_doesAll, 55) := ⟨⟨by decide +kernel, by decide +kernel⟩, tq_1194, tq_1714, tq_1715⟩
theorem lw_p106 : lw_okq (yX12_comesOut, 55) := ⟨⟨by decide +kernel, by decide +kernel⟩, tq_1194, tq_1718, tq_1719⟩
theorem lw_p107 : lw_okq (yX12_givesBack, 55) := ⟨⟨by decide +kernel, by decide +kernel⟩, tq_1194, tq_1722, tq_1723⟩
theorem lw_p108 : lw_okq (yX12_stops, 55) := ⟨⟨by decide +kernel, by decide +kernel⟩, tq_1194, tq_1726, tq_1727⟩
theorem lw_p109 : lw_okq (yX12_goesFrom, 55) := ⟨⟨by decide +kernel, by decide +kernel⟩, tq_1194, tq_1730, tq_1731⟩
theorem lw_p110 : lw_okq (yX12_lends, 55) := ⟨⟨by decide +kernel, by decide +kernel⟩, tq_1194, tq_1734, tq_1735⟩
theorem lw_p111 : lw_okq (yX12_isOpen, 55) := ⟨⟨by decide +kernel, by decide +kernel⟩, tq_1194, tq_1738, tq_1739⟩
theorem lw_p112 : lw_okq (yX12_muchOf, 55) := ⟨⟨by decide +kernel, by decide +kernel⟩, tq_1194, tq_1742, tq_1743⟩
theorem lw_p113 : lw_okq (yX12_goesInto, 55) := ⟨⟨by decide +kernel, by decide +kernel⟩, tq_1194, tq_1746, tq_1747⟩
theorem lw_p114 : lw_okq (yX12_doesOne, 55) := ⟨⟨by decide +kernel, by decide +kernel⟩, tq_1194, tq_1750, tq_1751⟩
theorem lw_p115 : lw_okq (yX12_swapsOne, 55) := ⟨⟨by decide +kernel, by decide +kernel⟩, tq_1194, tq_1754, tq_1755⟩
theorem lw_p116 : lw_okq (yX12_dropsOne, 55) := ⟨⟨by decide +kernel, by decide +kernel⟩, tq_1194, tq_1761, tq_1762⟩
theorem lw_p117 : lw_okq (yX12_isThing, 55) := ⟨⟨by decide +kernel, by decide +kernel⟩, tq_1194, tq_1765, tq_1766⟩
theorem lw_p118 : lw_okq (yX12_overIn, 55) := ⟨⟨by decide +kernel, by decide +kernel⟩, tq_1194, tq_1782, tq_1783⟩
theorem lw_p119 : lw_okq (yX12_leastTo, 55) := ⟨⟨by decide +kernel, by decide +kernel⟩, tq_1194, tq_1813, tq_1814⟩
theorem lw_p120 : lw_okq (yX12_leastWithin, 55) := ⟨⟨by decide +kernel, by decide +kernel⟩, tq_1194, tq_1817, tq_1818⟩
theorem lw_p121 : lw_okq (yX12_zoneWithin, 55) := ⟨⟨by decide +kernel, by decide +kernel⟩, tq_1194, tq_1821, tq_1822⟩
theorem lw_p122 : lw_okq (yX12_isWay, 55) := ⟨⟨by decide +kernel, by decide +kernel⟩, tq_1194, tq_1833, tq_1834⟩
theorem lw_p123 : lw_okq (yX12_routes, 55) := ⟨⟨by decide +kernel, by decide +kernel⟩, tq_1194, tq_1837, tq_1838⟩
theorem lw_p124 : lw_okq (yX12_along, 55) := ⟨⟨by decide +kernel, by decide +kernel⟩, tq_1194, tq_1841, tq_1842⟩
theorem lw_p125 : lw_okq (yX12_hop, 55) := ⟨⟨by decide +kernel, by decide +kernel⟩, tq_1194, tq_1851, tq_1852⟩
theorem lw_p126 : lw_okq (yX12_goesByParts, 55) := ⟨⟨by decide +kernel, by decide +kernel⟩, tq_1194, tq_1859, tq_1860⟩
theorem lw_p127 : lw_okq (yX12_goesAlong, 55) := ⟨⟨by decide +kernel, by decide +kernel⟩, tq_1194, tq_1863, tq_1864⟩
def lw_privs : List (MethodName × Nat) := [(yX3_readClause, 2), (yX9_byteAt, 7), (yX3_readSizes, 2), (yX3_readPool, 2), (yX3_readPurse, 2), (yX6_readStep, 5), (yX6_kindOfWord, 5), (yX6_readRange, 5), (yX6_readAmount, 5), (yX6_readLeast, 5), (yX6_readPoolAndSide, 5), (yX6_readMuch, 5), (yX6_openBracket, 5), (yX6_closeBrackets, 5), (yX5_closeBracket, 13), (yX5_giveBack, 13), (yX5_setLocked, 13), (yX5_fail, 13), (yX5_doIn, 13), (yX5_isLocked, 13), (yX5_muchOf, 13), (yX10_start, 14), (yX10_pourStep, 14), (yX10_aimBefore, 14), (yX10_takeIn, 14), (yX10_arrive, 14), (yX10_zoneShortOf, 14), (yX2_remove, 9), (yX10_finish, 14), (yX5_doOut, 13), (yX10_drainStep, 14), (yX5_doDrop, 13), (yX5_doLend, 13), (yX5_canOpen, 13), (yX5_openBracket, 13), (yX5_doTimes, 13), (yX11_canAsk, 8), (yX11_comesTo, 8), (yX11_canWander, 8), (yX1_otherThing, 9), (yX1_wasAt, 9), (yX1_trial, 9), (yX1_consider, 9), (yX12_readsAll, 55), (yX12_readsClause, 55), (yX12_wordHere, 55), (yX12_next, 55), (yX12_byteAt, 55), (yX12_fails, 55), (yX12_readsMarket, 55), (yX12_passWord, 55), (yX12_reads, 55), (yX12_readsPool, 55), (yX12_readsPurse, 55), (yX12_takesSign, 55), (yX12_begins, 55), (yX12_setPool, 55), (yX12_zoneOf, 55), (yX12_adds, 55), (yX12_isPerson, 55), (yX12_isPool, 55), (yX12_areTicks, 55), (yX12_stakeOf, 55), (yX12_stakes, 55), (yX12_ofStake, 55), (yX12_liesIn, 55), (yX12_zoneNow, 55), (yX12_ofPool, 55), (yX12_thingOf, 55), (yX12_inPurse, 55), (yX12_setStake, 55), (yX12_settles, 55), (yX12_owedTo, 55), (yX12_goesOut, 55), (yX12_morePool, 55), (yX12_morePurse, 55), (yX12_isStake, 55), (yX12_takesOut, 55), (yX12_paysOut, 55), (yX12_markOf, 55), (yX12_sumAt, 55), (yX12_marks, 55), (yX12_marksNow, 55), (yX12_swaps, 55), (yX12_steps, 55), (yX12_aimOf, 55), (yX12_depthOf, 55), (yX12_isAcross, 55), (yX12_feeOf, 55), (yX12_wantedTo, 55), (yX12_rootByOut, 55), (yX12_rootBy, 55), (yX12_feeUpon, 55), (yX12_shares, 55), (yX12_zoneBy, 55), (yX12_drops, 55), (yX12_trades, 55), (yX12_keeps, 55), (yX12_laysBack, 55), (yX12_readsBundle, 55), (yX12_readsStep, 55), (yX12_readsNumbers, 55), (yX12_readsMuch, 55), (yX12_opens, 55), (yX12_goesOn, 55), (yX12_doesAll, 55), (yX12_comesOut, 55), (yX12_givesBack, 55), (yX12_stops, 55), (yX12_goesFrom, 55), (yX12_lends, 55), (yX12_isOpen, 55), (yX12_muchOf, 55), (yX12_goesInto, 55), (yX12_doesOne, 55), (yX12_swapsOne, 55), (yX12_dropsOne, 55), (yX12_isThing, 55), (yX12_overIn, 55), (yX12_leastTo, 55), (yX12_leastWithin, 55), (yX12_zoneWithin, 55), (yX12_isWay, 55), (yX12_routes, 55), (yX12_along, 55), (yX12_hop, 55), (yX12_goesByParts, 55), (yX12_goesAlong, 55)]
def lw_tbl : List Cond := k2_sels lw_privs ++ tables_1
theorem lw_privs_ok : ∀ q ∈ lw_privs, lw_okq q := by
  unfold lw_privs
  simp only [List.forall_mem_cons]
  exact ⟨lw_p0, lw_p1, lw_p2, lw_p3, lw_p4, lw_p5, lw_p6, lw_p7, lw_p8, lw_p9, lw_p10, lw_p11, lw_p12, lw_p13, lw_p14, lw_p15, lw_p16, lw_p17, lw_p18, lw_p19, lw_p20, lw_p21, lw_p22, lw_p23, lw_p24, lw_p25, lw_p26, lw_p27, lw_p28, lw_p29, lw_p30, lw_p31, lw_p32, lw_p33, lw_p34, lw_p35, lw_p36, lw_p37, lw_p38, lw_p39, lw_p40, lw_p41, lw_p42, lw_p43, lw_p44, lw_p45, lw_p46, lw_p47, lw_p48, lw_p49, lw_p50, lw_p51, lw_p52, lw_p53, lw_p54, lw_p55, lw_p56, lw_p57, lw_p58, lw_p59, lw_p60, lw_p61, lw_p62, lw_p63, lw_p64, lw_p65, lw_p66, lw_p67, lw_p68, lw_p69, lw_p70, lw_p71, lw_p72, lw_p73, lw_p74, lw_p75, lw_p76, lw_p77, lw_p78, lw_p79, lw_p80, lw_p81, lw_p82, lw_p83, lw_p84, lw_p85, lw_p86, lw_p87, lw_p88, lw_p89, lw_p90, lw_p91, lw_p92, lw_p93, lw_p94, lw_p95, lw_p96, lw_p97, lw_p98, lw_p99, lw_p100, lw_p101, lw_p102, lw_p103, lw_p104, lw_p105, lw_p106, lw_p107, lw_p108, lw_p109, lw_p110, lw_p111, lw_p112, lw_p113, lw_p114, lw_p115, lw_p116, lw_p117, lw_p118, lw_p119, lw_p120, lw_p121, lw_p122, lw_p123, lw_p124, lw_p125, lw_p126, lw_p127, fun _ h => absurd h List.not_mem_nil⟩
/-- the words that every method's contract takes: those of the tables that a call keeps -/
def lw_gt : List Cond := lw_tbl.filter goodWord
theorem tw_t {w : Cond} (h : w ∈ tables_1) (g : goodWord w = true) : w ∈ lw_gt := List.mem_filter.mpr ⟨List.mem_append_right _ h, g⟩
theorem tw_s {w : Cond} (h : w ∈ k2_sels lw_privs) (g : goodWord w = true) : w ∈ lw_gt := List.mem_filter.mpr ⟨List.mem_append_left _ h, g⟩
theorem tw_0 : (.initialized "TickPoolsLaw" : Cond) ∈ lw_gt := tw_t tq_0 rfl
theorem tw_1 : (.initialized "TickPools" : Cond) ∈ lw_gt := tw_t tq_1 rfl
theorem tw_2 : (.initialized "TickPools$Tape" : Cond) ∈ lw_gt := tw_t tq_2 rfl
theorem tw_3 : (.initialized "TickPools$Market" : Cond) ∈ lw_gt := tw_t tq_3 rfl
theorem tw_4 : (.initialized "TickPools$Pool" : Cond) ∈ lw_gt := tw_t tq_4 rfl
theorem tw_5 : (.initialized "TickPools$Stake" : Cond) ∈ lw_gt := tw_t tq_5 rfl
theorem tw_6 : (.initialized "TickPools$Trade" : Cond) ∈ lw_gt := tw_t tq_6 rfl
theorem tw_7 : (.initialized "TickPools$MarketReader" : Cond) ∈ lw_gt := tw_t tq_7 rfl
theorem tw_8 : (.initialized "TickPools$Script" : Cond) ∈ lw_gt := tw_t tq_8 rfl
theorem tw_9 : (.initialized "TickPools$Step" : Cond) ∈ lw_gt := tw_t tq_9 rfl
theorem tw_10 : (.initialized "TickPools$Runner" : Cond) ∈ lw_gt := tw_t tq_10 rfl
theorem tw_11 : (.initialized "TickPools$Finder" : Cond) ∈ lw_gt := tw_t tq_11 rfl
theorem tw_12 : (.initialized "TickPoolsModel" : Cond) ∈ lw_gt := tw_t tq_12 rfl
theorem tw_13 : (.initialized "java/lang/String" : Cond) ∈ lw_gt := tw_t tq_13 rfl
theorem tw_14 : (.initialized "java/lang/StringLatin1" : Cond) ∈ lw_gt := tw_t tq_14 rfl
theorem tw_15 : (.initialized "jdk/internal/util/Preconditions" : Cond) ∈ lw_gt := tw_t tq_15 rfl
theorem tw_16 : (.initialized "java/lang/StringUTF16" : Cond) ∈ lw_gt := tw_t tq_16 rfl
theorem tw_17 : (.initialized "TickPools$Curve" : Cond) ∈ lw_gt := tw_t tq_17 rfl
theorem tw_18 : (.initialized "java/lang/System" : Cond) ∈ lw_gt := tw_t tq_18 rfl
theorem tw_21 : (.methodLink "TickPoolsLaw" 9 yX11_init : Cond) ∈ lw_gt := tw_t tq_21 rfl
theorem tw_22 : (.instanceMethod yX11_init : Cond) ∈ lw_gt := tw_t tq_22 rfl
theorem tw_23 : ((Jvm.Cond.code ({ cls := "TickPools", name := "<init>", desc := "()V" } : Jvm.MethodName) prog_1_method_1_code (1 : Nat) (Option.none : Option Jvm.ClassFile.FieldType)) : Cond) ∈ lw_gt := tw_t tq_23 rfl
theorem tw_24 : (.methodLink "TickPools" 1 ⟨"java/lang/Object", "<init>", "()V"⟩ : Cond) ∈ lw_gt := tw_t tq_24 rfl
theorem tw_25 : (.instanceMethod ⟨"java/lang/Object", "<init>", "()V"⟩ : Cond) ∈ lw_gt := tw_t tq_25 rfl
theorem tw_26 : ((Jvm.Cond.code ({ cls := "java/lang/Object", name := "<init>", desc := "()V" } : Jvm.MethodName) object_method_1_code (1 : Nat) (Option.none : Option Jvm.ClassFile.FieldType)) : Cond) ∈ lw_gt := tw_t tq_26 rfl
theorem tw_29 : (.methodLink "TickPools" 9 yX9_init : Cond) ∈ lw_gt := tw_t tq_29 rfl
theorem tw_30 : (.instanceMethod yX9_init : Cond) ∈ lw_gt := tw_t tq_30 rfl
theorem tw_31 : ((Jvm.Cond.code ({ cls := "TickPools$Tape", name := "<init>", desc := "()V" } : Jvm.MethodName) prog_11_method_1_code (1 : Nat) (Option.none : Option Jvm.ClassFile.FieldType)) : Cond) ∈ lw_gt := tw_t tq_31 rfl
theorem tw_32 : (.methodLink "TickPools$Tape" 3 ⟨"java/lang/Object", "<init>", "()V"⟩ : Cond) ∈ lw_gt := tw_t tq_32 rfl
theorem tw_33 : (.fieldLink "TickPools$Tape" 15 "TickPools$Tape" "length" "I" : Cond) ∈ lw_gt := tw_t tq_33 rfl
theorem tw_34 : (.fieldLink "TickPools" 77 "TickPools$Tape" "length" "I" : Cond) ∈ lw_gt := tw_t tq_34 rfl
theorem tw_35 : (.fieldLink "TickPools$Tape" 22 "TickPools$Tape" "fault" "I" : Cond) ∈ lw_gt := tw_t tq_35 rfl
theorem tw_36 : (.fieldLink "TickPools" 84 "TickPools$Tape" "fault" "I" : Cond) ∈ lw_gt := tw_t tq_36 rfl
theorem tw_37 : (.fieldLink "TickPools$MarketReader" 76 "TickPools$Tape" "value" "I" : Cond) ∈ lw_gt := tw_t tq_37 rfl
theorem tw_38 : (.fieldLink "TickPools$Script" 127 "TickPools$Tape" "value" "I" : Cond) ∈ lw_gt := tw_t tq_38 rfl
theorem tw_39 : (.fieldLink "TickPools$Tape" 51 "TickPools$Tape" "value" "I" : Cond) ∈ lw_gt := tw_t tq_39 rfl
theorem tw_40 : (.fieldLink "TickPools$Script" 81 "TickPools$Tape" "wordStart" "I" : Cond) ∈ lw_gt := tw_t tq_40 rfl
theorem tw_41 : (.fieldLink "TickPools$Tape" 37 "TickPools$Tape" "wordStart" "I" : Cond) ∈ lw_gt := tw_t tq_41 rfl
theorem tw_42 : (.fieldLink "TickPools$Tape" 40 "TickPools$Tape" "wordEnd" "I" : Cond) ∈ lw_gt := tw_t tq_42 rfl
theorem tw_43 : (.fieldLink "TickPools$Tape" 19 "TickPools$Tape" "at" "I" : Cond) ∈ lw_gt := tw_t tq_43 rfl
theorem tw_44 : (.fieldLink "TickPools$Tape" 9 "TickPools$Tape" "bytes" "[B" : Cond) ∈ lw_gt := tw_t tq_44 rfl
theorem tw_45 : (.lays "TickPools$Tape" "TickPools$Tape" "length" "I" : Cond) ∈ lw_gt := tw_t tq_45 rfl
theorem tw_47 : (.lays "TickPools$Tape" "TickPools$Tape" "fault" "I" : Cond) ∈ lw_gt := tw_t tq_47 rfl
theorem tw_49 : (.lays "TickPools$Tape" "TickPools$Tape" "value" "I" : Cond) ∈ lw_gt := tw_t tq_49 rfl
theorem tw_51 : (.lays "TickPools$Tape" "TickPools$Tape" "wordStart" "I" : Cond) ∈ lw_gt := tw_t tq_51 rfl
theorem tw_53 : (.lays "TickPools$Tape" "TickPools$Tape" "wordEnd" "I" : Cond) ∈ lw_gt := tw_t tq_53 rfl
theorem tw_55 : (.lays "TickPools$Tape" "TickPools$Tape" "at" "I" : Cond) ∈ lw_gt := tw_t tq_55 rfl
theorem tw_57 : (.laysFinal "TickPools$Tape" "TickPools$Tape" "bytes" "[B" : Cond) ∈ lw_gt := tw_t tq_57 rfl
theorem tw_63 : (.methodLink "TickPools" 18 yX2_init : Cond) ∈ lw_gt := tw_t tq_63 rfl
theorem tw_64 : (.instanceMethod yX2_init : Cond) ∈ lw_gt := tw_t tq_64 rfl
theorem tw_65 : ((Jvm.Cond.code ({ cls := "TickPools$Market", name := "<init>", desc := "()V" } : Jvm.MethodName) prog_4_method_1_code (2 : Nat) (Option.none : Option Jvm.ClassFile.FieldType)) : Cond) ∈ lw_gt := tw_t tq_65 rfl
theorem tw_66 : (.methodLink "TickPools$Market" 3 ⟨"java/lang/Object", "<init>", "()V"⟩ : Cond) ∈ lw_gt := tw_t tq_66 rfl
theorem tw_70 : (.methodLink "TickPools$Market" 21 yX4_init : Cond) ∈ lw_gt := tw_t tq_70 rfl
theorem tw_71 : (.instanceMethod yX4_init : Cond) ∈ lw_gt := tw_t tq_71 rfl
theorem tw_72 : ((Jvm.Cond.code ({ cls := "TickPools$Pool", name := "<init>", desc := "()V" } : Jvm.MethodName) prog_6_method_1_code (1 : Nat) (Option.none : Option Jvm.ClassFile.FieldType)) : Cond) ∈ lw_gt := tw_t tq_72 rfl
theorem tw_73 : (.methodLink "TickPools$Pool" 3 ⟨"java/lang/Object", "<init>", "()V"⟩ : Cond) ∈ lw_gt := tw_t tq_73 rfl
theorem tw_74 : (.fieldLink "TickPools$Pool" 44 "TickPools$Pool" "first" "I" : Cond) ∈ lw_gt := tw_t tq_74 rfl
theorem tw_75 : (.fieldLink "TickPools$MarketReader" 89 "TickPools$Pool" "first" "I" : Cond) ∈ lw_gt := tw_t tq_75 rfl
theorem tw_76 : (.fieldLink "TickPools" 136 "TickPools$Pool" "first" "I" : Cond) ∈ lw_gt := tw_t tq_76 rfl
theorem tw_77 : (.fieldLink "TickPools$Market" 138 "TickPools$Pool" "first" "I" : Cond) ∈ lw_gt := tw_t tq_77 rfl
theorem tw_78 : (.fieldLink "TickPools$Pool" 47 "TickPools$Pool" "second" "I" : Cond) ∈ lw_gt := tw_t tq_78 rfl
theorem tw_79 : (.fieldLink "TickPools$MarketReader" 97 "TickPools$Pool" "second" "I" : Cond) ∈ lw_gt := tw_t tq_79 rfl
theorem tw_80 : (.fieldLink "TickPools" 141 "TickPools$Pool" "second" "I" : Cond) ∈ lw_gt := tw_t tq_80 rfl
theorem tw_81 : (.fieldLink "TickPools$Market" 141 "TickPools$Pool" "second" "I" : Cond) ∈ lw_gt := tw_t tq_81 rfl
theorem tw_82 : (.fieldLink "TickPools$Pool" 50 "TickPools$Pool" "fee" "I" : Cond) ∈ lw_gt := tw_t tq_82 rfl
theorem tw_83 : (.fieldLink "TickPools$Trade" 108 "TickPools$Pool" "fee" "I" : Cond) ∈ lw_gt := tw_t tq_83 rfl
theorem tw_84 : (.fieldLink "TickPools$MarketReader" 100 "TickPools$Pool" "fee" "I" : Cond) ∈ lw_gt := tw_t tq_84 rfl
theorem tw_85 : (.fieldLink "TickPools" 144 "TickPools$Pool" "fee" "I" : Cond) ∈ lw_gt := tw_t tq_85 rfl
theorem tw_86 : (.fieldLink "TickPools$Runner" 222 "TickPools$Pool" "fee" "I" : Cond) ∈ lw_gt := tw_t tq_86 rfl
theorem tw_87 : (.fieldLink "TickPools$Pool" 53 "TickPools$Pool" "cut" "I" : Cond) ∈ lw_gt := tw_t tq_87 rfl
theorem tw_88 : (.fieldLink "TickPools$MarketReader" 103 "TickPools$Pool" "cut" "I" : Cond) ∈ lw_gt := tw_t tq_88 rfl
theorem tw_89 : (.fieldLink "TickPools" 147 "TickPools$Pool" "cut" "I" : Cond) ∈ lw_gt := tw_t tq_89 rfl
theorem tw_90 : (.fieldLink "TickPools$Market" 186 "TickPools$Pool" "cut" "I" : Cond) ∈ lw_gt := tw_t tq_90 rfl
theorem tw_91 : (.fieldLink "TickPools$Pool" 56 "TickPools$Pool" "spacing" "I" : Cond) ∈ lw_gt := tw_t tq_91 rfl
theorem tw_92 : (.fieldLink "TickPools$MarketReader" 106 "TickPools$Pool" "spacing" "I" : Cond) ∈ lw_gt := tw_t tq_92 rfl
theorem tw_93 : (.fieldLink "TickPools" 150 "TickPools$Pool" "spacing" "I" : Cond) ∈ lw_gt := tw_t tq_93 rfl
theorem tw_94 : (.fieldLink "TickPools$Market" 151 "TickPools$Pool" "spacing" "I" : Cond) ∈ lw_gt := tw_t tq_94 rfl
theorem tw_95 : (.fieldLink "TickPools$Pool" 30 "TickPools$Pool" "root" "I" : Cond) ∈ lw_gt := tw_t tq_95 rfl
theorem tw_96 : (.fieldLink "TickPools$Trade" 87 "TickPools$Pool" "root" "I" : Cond) ∈ lw_gt := tw_t tq_96 rfl
theorem tw_97 : (.fieldLink "TickPools$Stake" 56 "TickPools$Pool" "root" "I" : Cond) ∈ lw_gt := tw_t tq_97 rfl
theorem tw_98 : (.fieldLink "TickPools" 156 "TickPools$Pool" "root" "I" : Cond) ∈ lw_gt := tw_t tq_98 rfl
theorem tw_99 : (.fieldLink "TickPools$Pool" 38 "TickPools$Pool" "zone" "I" : Cond) ∈ lw_gt := tw_t tq_99 rfl
theorem tw_100 : (.fieldLink "TickPools$Trade" 93 "TickPools$Pool" "zone" "I" : Cond) ∈ lw_gt := tw_t tq_100 rfl
theorem tw_101 : (.fieldLink "TickPools$Stake" 45 "TickPools$Pool" "zone" "I" : Cond) ∈ lw_gt := tw_t tq_101 rfl
theorem tw_102 : (.fieldLink "TickPools" 153 "TickPools$Pool" "zone" "I" : Cond) ∈ lw_gt := tw_t tq_102 rfl
theorem tw_103 : (.fieldLink "TickPools$Runner" 197 "TickPools$Pool" "zone" "I" : Cond) ∈ lw_gt := tw_t tq_103 rfl
theorem tw_104 : (.fieldLink "TickPools$Market" 179 "TickPools$Pool" "zone" "I" : Cond) ∈ lw_gt := tw_t tq_104 rfl
theorem tw_105 : (.fieldLink "TickPools$Pool" 41 "TickPools$Pool" "marks" "I" : Cond) ∈ lw_gt := tw_t tq_105 rfl
theorem tw_106 : (.fieldLink "TickPools$Pool" 9 "TickPools$Pool" "held" "[I" : Cond) ∈ lw_gt := tw_t tq_106 rfl
theorem tw_107 : (.fieldLink "TickPools" 163 "TickPools$Pool" "held" "[I" : Cond) ∈ lw_gt := tw_t tq_107 rfl
theorem tw_108 : (.fieldLink "TickPools$Market" 65 "TickPools$Pool" "held" "[I" : Cond) ∈ lw_gt := tw_t tq_108 rfl
theorem tw_109 : (.fieldLink "TickPools$Trade" 152 "TickPools$Pool" "held" "[I" : Cond) ∈ lw_gt := tw_t tq_109 rfl
theorem tw_110 : (.fieldLink "TickPools$Pool" 15 "TickPools$Pool" "house" "[I" : Cond) ∈ lw_gt := tw_t tq_110 rfl
theorem tw_111 : (.fieldLink "TickPools" 167 "TickPools$Pool" "house" "[I" : Cond) ∈ lw_gt := tw_t tq_111 rfl
theorem tw_112 : (.fieldLink "TickPools$Market" 106 "TickPools$Pool" "house" "[I" : Cond) ∈ lw_gt := tw_t tq_112 rfl
theorem tw_113 : (.fieldLink "TickPools$Pool" 18 "TickPools$Pool" "markTime" "[I" : Cond) ∈ lw_gt := tw_t tq_113 rfl
theorem tw_114 : (.fieldLink "TickPools$Pool" 21 "TickPools$Pool" "markSum" "[I" : Cond) ∈ lw_gt := tw_t tq_114 rfl
theorem tw_115 : (.lays "TickPools$Pool" "TickPools$Pool" "first" "I" : Cond) ∈ lw_gt := tw_t tq_115 rfl
theorem tw_117 : (.lays "TickPools$Pool" "TickPools$Pool" "second" "I" : Cond) ∈ lw_gt := tw_t tq_117 rfl
theorem tw_119 : (.lays "TickPools$Pool" "TickPools$Pool" "fee" "I" : Cond) ∈ lw_gt := tw_t tq_119 rfl
theorem tw_121 : (.lays "TickPools$Pool" "TickPools$Pool" "cut" "I" : Cond) ∈ lw_gt := tw_t tq_121 rfl
theorem tw_123 : (.lays "TickPools$Pool" "TickPools$Pool" "spacing" "I" : Cond) ∈ lw_gt := tw_t tq_123 rfl
theorem tw_125 : (.lays "TickPools$Pool" "TickPools$Pool" "root" "I" : Cond) ∈ lw_gt := tw_t tq_125 rfl
theorem tw_127 : (.lays "TickPools$Pool" "TickPools$Pool" "zone" "I" : Cond) ∈ lw_gt := tw_t tq_127 rfl
theorem tw_129 : (.lays "TickPools$Pool" "TickPools$Pool" "marks" "I" : Cond) ∈ lw_gt := tw_t tq_129 rfl
theorem tw_131 : (.laysFinal "TickPools$Pool" "TickPools$Pool" "held" "[I" : Cond) ∈ lw_gt := tw_t tq_131 rfl
theorem tw_133 : (.laysFinal "TickPools$Pool" "TickPools$Pool" "house" "[I" : Cond) ∈ lw_gt := tw_t tq_133 rfl
theorem tw_135 : (.laysFinal "TickPools$Pool" "TickPools$Pool" "markTime" "[I" : Cond) ∈ lw_gt := tw_t tq_135 rfl
theorem tw_137 : (.laysFinal "TickPools$Pool" "TickPools$Pool" "markSum" "[I" : Cond) ∈ lw_gt := tw_t tq_137 rfl
theorem tw_144 : (.methodLink "TickPools$Market" 28 yX7_init : Cond) ∈ lw_gt := tw_t tq_144 rfl
theorem tw_145 : (.instanceMethod yX7_init : Cond) ∈ lw_gt := tw_t tq_145 rfl
theorem tw_146 : ((Jvm.Cond.code ({ cls := "TickPools$Stake", name := "<init>", desc := "()V" } : Jvm.MethodName) prog_9_method_1_code (1 : Nat) (Option.none : Option Jvm.ClassFile.FieldType)) : Cond) ∈ lw_gt := tw_t tq_146 rfl
theorem tw_147 : (.methodLink "TickPools$Stake" 1 ⟨"java/lang/Object", "<init>", "()V"⟩ : Cond) ∈ lw_gt := tw_t tq_147 rfl
theorem tw_148 : (.fieldLink "TickPools$Stake" 16 "TickPools$Stake" "person" "I" : Cond) ∈ lw_gt := tw_t tq_148 rfl
theorem tw_149 : (.fieldLink "TickPools" 185 "TickPools$Stake" "person" "I" : Cond) ∈ lw_gt := tw_t tq_149 rfl
theorem tw_150 : (.fieldLink "TickPools$Market" 165 "TickPools$Stake" "person" "I" : Cond) ∈ lw_gt := tw_t tq_150 rfl
theorem tw_151 : (.fieldLink "TickPools$Stake" 20 "TickPools$Stake" "pool" "I" : Cond) ∈ lw_gt := tw_t tq_151 rfl
theorem tw_152 : (.fieldLink "TickPools" 180 "TickPools$Stake" "pool" "I" : Cond) ∈ lw_gt := tw_t tq_152 rfl
theorem tw_153 : (.fieldLink "TickPools$Market" 86 "TickPools$Stake" "pool" "I" : Cond) ∈ lw_gt := tw_t tq_153 rfl
theorem tw_154 : (.fieldLink "TickPools$Stake" 23 "TickPools$Stake" "low" "I" : Cond) ∈ lw_gt := tw_t tq_154 rfl
theorem tw_155 : (.fieldLink "TickPools" 188 "TickPools$Stake" "low" "I" : Cond) ∈ lw_gt := tw_t tq_155 rfl
theorem tw_156 : (.fieldLink "TickPools$Market" 89 "TickPools$Stake" "low" "I" : Cond) ∈ lw_gt := tw_t tq_156 rfl
theorem tw_157 : (.fieldLink "TickPools$Stake" 26 "TickPools$Stake" "high" "I" : Cond) ∈ lw_gt := tw_t tq_157 rfl
theorem tw_158 : (.fieldLink "TickPools" 191 "TickPools$Stake" "high" "I" : Cond) ∈ lw_gt := tw_t tq_158 rfl
theorem tw_159 : (.fieldLink "TickPools$Market" 92 "TickPools$Stake" "high" "I" : Cond) ∈ lw_gt := tw_t tq_159 rfl
theorem tw_160 : (.fieldLink "TickPools$Stake" 29 "TickPools$Stake" "auto" "I" : Cond) ∈ lw_gt := tw_t tq_160 rfl
theorem tw_161 : (.fieldLink "TickPools" 194 "TickPools$Stake" "auto" "I" : Cond) ∈ lw_gt := tw_t tq_161 rfl
theorem tw_162 : (.fieldLink "TickPools$Market" 172 "TickPools$Stake" "auto" "I" : Cond) ∈ lw_gt := tw_t tq_162 rfl
theorem tw_163 : (.fieldLink "TickPools$Stake" 32 "TickPools$Stake" "liquidity" "I" : Cond) ∈ lw_gt := tw_t tq_163 rfl
theorem tw_164 : (.fieldLink "TickPools" 197 "TickPools$Stake" "liquidity" "I" : Cond) ∈ lw_gt := tw_t tq_164 rfl
theorem tw_165 : (.fieldLink "TickPools$Runner" 188 "TickPools$Stake" "liquidity" "I" : Cond) ∈ lw_gt := tw_t tq_165 rfl
theorem tw_166 : (.fieldLink "TickPools$Market" 95 "TickPools$Stake" "liquidity" "I" : Cond) ∈ lw_gt := tw_t tq_166 rfl
theorem tw_167 : (.fieldLink "TickPools$Stake" 7 "TickPools$Stake" "gain" "[J" : Cond) ∈ lw_gt := tw_t tq_167 rfl
theorem tw_168 : (.fieldLink "TickPools$Market" 196 "TickPools$Stake" "gain" "[J" : Cond) ∈ lw_gt := tw_t tq_168 rfl
theorem tw_169 : (.fieldLink "TickPools$Stake" 13 "TickPools$Stake" "debt" "[J" : Cond) ∈ lw_gt := tw_t tq_169 rfl
theorem tw_170 : (.fieldLink "TickPools" 225 "TickPools$Stake" "debt" "[J" : Cond) ∈ lw_gt := tw_t tq_170 rfl
theorem tw_171 : (.fieldLink "TickPools$Market" 161 "TickPools$Stake" "debt" "[J" : Cond) ∈ lw_gt := tw_t tq_171 rfl
theorem tw_172 : (.lays "TickPools$Stake" "TickPools$Stake" "person" "I" : Cond) ∈ lw_gt := tw_t tq_172 rfl
theorem tw_174 : (.lays "TickPools$Stake" "TickPools$Stake" "pool" "I" : Cond) ∈ lw_gt := tw_t tq_174 rfl
theorem tw_176 : (.lays "TickPools$Stake" "TickPools$Stake" "low" "I" : Cond) ∈ lw_gt := tw_t tq_176 rfl
theorem tw_178 : (.lays "TickPools$Stake" "TickPools$Stake" "high" "I" : Cond) ∈ lw_gt := tw_t tq_178 rfl
theorem tw_180 : (.lays "TickPools$Stake" "TickPools$Stake" "auto" "I" : Cond) ∈ lw_gt := tw_t tq_180 rfl
theorem tw_182 : (.lays "TickPools$Stake" "TickPools$Stake" "liquidity" "I" : Cond) ∈ lw_gt := tw_t tq_182 rfl
theorem tw_184 : (.laysFinal "TickPools$Stake" "TickPools$Stake" "gain" "[J" : Cond) ∈ lw_gt := tw_t tq_184 rfl
theorem tw_186 : (.laysFinal "TickPools$Stake" "TickPools$Stake" "debt" "[J" : Cond) ∈ lw_gt := tw_t tq_186 rfl
theorem tw_190 : (.fieldLink "TickPools$Market" 29 "TickPools$Market" "things" "I" : Cond) ∈ lw_gt := tw_t tq_190 rfl
theorem tw_191 : (.fieldLink "TickPools$MarketReader" 79 "TickPools$Market" "things" "I" : Cond) ∈ lw_gt := tw_t tq_191 rfl
theorem tw_192 : (.fieldLink "TickPools" 260 "TickPools$Market" "things" "I" : Cond) ∈ lw_gt := tw_t tq_192 rfl
theorem tw_193 : (.fieldLink "TickPools$Market" 33 "TickPools$Market" "people" "I" : Cond) ∈ lw_gt := tw_t tq_193 rfl
theorem tw_194 : (.fieldLink "TickPools$MarketReader" 82 "TickPools$Market" "people" "I" : Cond) ∈ lw_gt := tw_t tq_194 rfl
theorem tw_195 : (.fieldLink "TickPools" 324 "TickPools$Market" "people" "I" : Cond) ∈ lw_gt := tw_t tq_195 rfl
theorem tw_196 : (.fieldLink "TickPools$Market" 36 "TickPools$Market" "pools" "I" : Cond) ∈ lw_gt := tw_t tq_196 rfl
theorem tw_197 : (.fieldLink "TickPools$MarketReader" 59 "TickPools$Market" "pools" "I" : Cond) ∈ lw_gt := tw_t tq_197 rfl
theorem tw_198 : (.fieldLink "TickPools" 91 "TickPools$Market" "pools" "I" : Cond) ∈ lw_gt := tw_t tq_198 rfl
theorem tw_199 : (.fieldLink "TickPools$Finder" 44 "TickPools$Market" "pools" "I" : Cond) ∈ lw_gt := tw_t tq_199 rfl
theorem tw_200 : (.fieldLink "TickPools$Market" 39 "TickPools$Market" "stakes" "I" : Cond) ∈ lw_gt := tw_t tq_200 rfl
theorem tw_201 : (.fieldLink "TickPools" 219 "TickPools$Market" "stakes" "I" : Cond) ∈ lw_gt := tw_t tq_201 rfl
theorem tw_202 : (.fieldLink "TickPools$Market" 42 "TickPools$Market" "time" "I" : Cond) ∈ lw_gt := tw_t tq_202 rfl
theorem tw_203 : (.fieldLink "TickPools$Trade" 94 "TickPools$Market" "time" "I" : Cond) ∈ lw_gt := tw_t tq_203 rfl
theorem tw_204 : (.fieldLink "TickPools" 263 "TickPools$Market" "time" "I" : Cond) ∈ lw_gt := tw_t tq_204 rfl
theorem tw_205 : (.fieldLink "TickPools$Market" 45 "TickPools$Market" "crossed" "I" : Cond) ∈ lw_gt := tw_t tq_205 rfl
theorem tw_206 : (.fieldLink "TickPools$Trade" 151 "TickPools$Market" "crossed" "I" : Cond) ∈ lw_gt := tw_t tq_206 rfl
theorem tw_207 : (.fieldLink "TickPools" 327 "TickPools$Market" "crossed" "I" : Cond) ∈ lw_gt := tw_t tq_207 rfl
theorem tw_208 : (.fieldLink "TickPools$Market" 9 "TickPools$Market" "purses" "[I" : Cond) ∈ lw_gt := tw_t tq_208 rfl
theorem tw_209 : (.fieldLink "TickPools$Market" 17 "TickPools$Market" "poolRow" "[LTickPools$Pool;" : Cond) ∈ lw_gt := tw_t tq_209 rfl
theorem tw_210 : (.fieldLink "TickPools$Market" 24 "TickPools$Market" "stakeRow" "[LTickPools$Stake;" : Cond) ∈ lw_gt := tw_t tq_210 rfl
theorem tw_211 : (.lays "TickPools$Market" "TickPools$Market" "things" "I" : Cond) ∈ lw_gt := tw_t tq_211 rfl
theorem tw_213 : (.lays "TickPools$Market" "TickPools$Market" "people" "I" : Cond) ∈ lw_gt := tw_t tq_213 rfl
theorem tw_215 : (.lays "TickPools$Market" "TickPools$Market" "pools" "I" : Cond) ∈ lw_gt := tw_t tq_215 rfl
theorem tw_217 : (.lays "TickPools$Market" "TickPools$Market" "stakes" "I" : Cond) ∈ lw_gt := tw_t tq_217 rfl
theorem tw_219 : (.lays "TickPools$Market" "TickPools$Market" "time" "I" : Cond) ∈ lw_gt := tw_t tq_219 rfl
theorem tw_221 : (.lays "TickPools$Market" "TickPools$Market" "crossed" "I" : Cond) ∈ lw_gt := tw_t tq_221 rfl
theorem tw_223 : (.laysFinal "TickPools$Market" "TickPools$Market" "purses" "[I" : Cond) ∈ lw_gt := tw_t tq_223 rfl
theorem tw_225 : (.laysFinal "TickPools$Market" "TickPools$Market" "poolRow" "[LTickPools$Pool;" : Cond) ∈ lw_gt := tw_t tq_225 rfl
theorem tw_227 : (.laysFinal "TickPools$Market" "TickPools$Market" "stakeRow" "[LTickPools$Stake;" : Cond) ∈ lw_gt := tw_t tq_227 rfl
theorem tw_233 : (.instanceMethod yX10_init : Cond) ∈ lw_gt := tw_t tq_233 rfl
theorem tw_234 : ((Jvm.Cond.code ({ cls := "TickPools$Trade", name := "<init>", desc := "()V" } : Jvm.MethodName) prog_12_method_1_code (1 : Nat) (Option.none : Option Jvm.ClassFile.FieldType)) : Cond) ∈ lw_gt := tw_t tq_234 rfl
theorem tw_235 : (.methodLink "TickPools$Trade" 3 ⟨"java/lang/Object", "<init>", "()V"⟩ : Cond) ∈ lw_gt := tw_t tq_235 rfl
theorem tw_236 : (.fieldLink "TickPools$Trade" 40 "TickPools$Trade" "market" "LTickPools$Market;" : Cond) ∈ lw_gt := tw_t tq_236 rfl
theorem tw_237 : (.fieldLink "TickPools$Trade" 67 "TickPools$Trade" "pool" "LTickPools$Pool;" : Cond) ∈ lw_gt := tw_t tq_237 rfl
theorem tw_238 : (.fieldLink "TickPools$Trade" 44 "TickPools$Trade" "poolNumber" "I" : Cond) ∈ lw_gt := tw_t tq_238 rfl
theorem tw_239 : (.fieldLink "TickPools$Trade" 15 "TickPools$Trade" "side" "I" : Cond) ∈ lw_gt := tw_t tq_239 rfl
theorem tw_240 : (.fieldLink "TickPools$Trade" 34 "TickPools$Trade" "real" "Z" : Cond) ∈ lw_gt := tw_t tq_240 rfl
theorem tw_241 : (.fieldLink "TickPools$Trade" 92 "TickPools$Trade" "root" "I" : Cond) ∈ lw_gt := tw_t tq_241 rfl
theorem tw_242 : (.fieldLink "TickPools$Trade" 22 "TickPools$Trade" "atEnd" "Z" : Cond) ∈ lw_gt := tw_t tq_242 rfl
theorem tw_243 : (.fieldLink "TickPools$Trade" 37 "TickPools$Trade" "crossedTick" "I" : Cond) ∈ lw_gt := tw_t tq_243 rfl
theorem tw_244 : (.fieldLink "TickPools$Trade" 19 "TickPools$Trade" "zone" "I" : Cond) ∈ lw_gt := tw_t tq_244 rfl
theorem tw_245 : (.fieldLink "TickPools" 281 "TickPools$Trade" "zone" "I" : Cond) ∈ lw_gt := tw_t tq_245 rfl
theorem tw_246 : (.fieldLink "TickPools$Trade" 71 "TickPools$Trade" "crossed" "I" : Cond) ∈ lw_gt := tw_t tq_246 rfl
theorem tw_247 : (.fieldLink "TickPools" 282 "TickPools$Trade" "crossed" "I" : Cond) ∈ lw_gt := tw_t tq_247 rfl
theorem tw_248 : (.fieldLink "TickPools$Trade" 26 "TickPools$Trade" "left" "J" : Cond) ∈ lw_gt := tw_t tq_248 rfl
theorem tw_249 : (.fieldLink "TickPools$Runner" 174 "TickPools$Trade" "left" "J" : Cond) ∈ lw_gt := tw_t tq_249 rfl
theorem tw_250 : (.fieldLink "TickPools" 254 "TickPools$Trade" "left" "J" : Cond) ∈ lw_gt := tw_t tq_250 rfl
theorem tw_251 : (.fieldLink "TickPools$Trade" 74 "TickPools$Trade" "gave" "J" : Cond) ∈ lw_gt := tw_t tq_251 rfl
theorem tw_252 : (.fieldLink "TickPools$Finder" 87 "TickPools$Trade" "gave" "J" : Cond) ∈ lw_gt := tw_t tq_252 rfl
theorem tw_253 : (.fieldLink "TickPools$Runner" 162 "TickPools$Trade" "gave" "J" : Cond) ∈ lw_gt := tw_t tq_253 rfl
theorem tw_254 : (.fieldLink "TickPools" 243 "TickPools$Trade" "gave" "J" : Cond) ∈ lw_gt := tw_t tq_254 rfl
theorem tw_255 : (.fieldLink "TickPools$Trade" 77 "TickPools$Trade" "paid" "J" : Cond) ∈ lw_gt := tw_t tq_255 rfl
theorem tw_256 : (.fieldLink "TickPools$Runner" 177 "TickPools$Trade" "paid" "J" : Cond) ∈ lw_gt := tw_t tq_256 rfl
theorem tw_257 : (.fieldLink "TickPools" 257 "TickPools$Trade" "paid" "J" : Cond) ∈ lw_gt := tw_t tq_257 rfl
theorem tw_258 : (.fieldLink "TickPools$Trade" 80 "TickPools$Trade" "fees" "J" : Cond) ∈ lw_gt := tw_t tq_258 rfl
theorem tw_259 : (.fieldLink "TickPools" 278 "TickPools$Trade" "fees" "J" : Cond) ∈ lw_gt := tw_t tq_259 rfl
theorem tw_260 : (.lays "TickPools$Trade" "TickPools$Trade" "market" "LTickPools$Market;" : Cond) ∈ lw_gt := tw_t tq_260 rfl
theorem tw_262 : (.lays "TickPools$Trade" "TickPools$Trade" "pool" "LTickPools$Pool;" : Cond) ∈ lw_gt := tw_t tq_262 rfl
theorem tw_264 : (.lays "TickPools$Trade" "TickPools$Trade" "poolNumber" "I" : Cond) ∈ lw_gt := tw_t tq_264 rfl
theorem tw_266 : (.lays "TickPools$Trade" "TickPools$Trade" "side" "I" : Cond) ∈ lw_gt := tw_t tq_266 rfl
theorem tw_268 : (.lays "TickPools$Trade" "TickPools$Trade" "real" "Z" : Cond) ∈ lw_gt := tw_t tq_268 rfl
theorem tw_270 : (.lays "TickPools$Trade" "TickPools$Trade" "root" "I" : Cond) ∈ lw_gt := tw_t tq_270 rfl
theorem tw_272 : (.lays "TickPools$Trade" "TickPools$Trade" "atEnd" "Z" : Cond) ∈ lw_gt := tw_t tq_272 rfl
theorem tw_274 : (.lays "TickPools$Trade" "TickPools$Trade" "crossedTick" "I" : Cond) ∈ lw_gt := tw_t tq_274 rfl
theorem tw_276 : (.lays "TickPools$Trade" "TickPools$Trade" "zone" "I" : Cond) ∈ lw_gt := tw_t tq_276 rfl
theorem tw_278 : (.lays "TickPools$Trade" "TickPools$Trade" "crossed" "I" : Cond) ∈ lw_gt := tw_t tq_278 rfl
theorem tw_280 : (.lays "TickPools$Trade" "TickPools$Trade" "left" "J" : Cond) ∈ lw_gt := tw_t tq_280 rfl
theorem tw_282 : (.lays "TickPools$Trade" "TickPools$Trade" "gave" "J" : Cond) ∈ lw_gt := tw_t tq_282 rfl
theorem tw_284 : (.lays "TickPools$Trade" "TickPools$Trade" "paid" "J" : Cond) ∈ lw_gt := tw_t tq_284 rfl
theorem tw_286 : (.lays "TickPools$Trade" "TickPools$Trade" "fees" "J" : Cond) ∈ lw_gt := tw_t tq_286 rfl
theorem tw_291 : (.methodLink "TickPools" 35 yX3_init : Cond) ∈ lw_gt := tw_t tq_291 rfl
theorem tw_292 : (.instanceMethod yX3_init : Cond) ∈ lw_gt := tw_t tq_292 rfl
theorem tw_293 : ((Jvm.Cond.code ({ cls := "TickPools$MarketReader", name := "<init>", desc := "(LTickPools$Tape;LTickPools$Market;)V" } : Jvm.MethodName) prog_5_method_1_code (3 : Nat) (Option.none : Option Jvm.ClassFile.FieldType)) : Cond) ∈ lw_gt := tw_t tq_293 rfl
theorem tw_294 : (.methodLink "TickPools$MarketReader" 3 ⟨"java/lang/Object", "<init>", "()V"⟩ : Cond) ∈ lw_gt := tw_t tq_294 rfl
theorem tw_295 : (.fieldLink "TickPools$MarketReader" 9 "TickPools$MarketReader" "tape" "LTickPools$Tape;" : Cond) ∈ lw_gt := tw_t tq_295 rfl
theorem tw_296 : (.fieldLink "TickPools$MarketReader" 15 "TickPools$MarketReader" "market" "LTickPools$Market;" : Cond) ∈ lw_gt := tw_t tq_296 rfl
theorem tw_297 : (.laysFinal "TickPools$MarketReader" "TickPools$MarketReader" "tape" "LTickPools$Tape;" : Cond) ∈ lw_gt := tw_t tq_297 rfl
theorem tw_299 : (.laysFinal "TickPools$MarketReader" "TickPools$MarketReader" "market" "LTickPools$Market;" : Cond) ∈ lw_gt := tw_t tq_299 rfl
theorem tw_304 : (.methodLink "TickPools" 44 yX6_init : Cond) ∈ lw_gt := tw_t tq_304 rfl
theorem tw_305 : (.instanceMethod yX6_init : Cond) ∈ lw_gt := tw_t tq_305 rfl
theorem tw_306 : ((Jvm.Cond.code ({ cls := "TickPools$Script", name := "<init>", desc := "(LTickPools$Tape;)V" } : Jvm.MethodName) prog_8_method_1_code (3 : Nat) (Option.none : Option Jvm.ClassFile.FieldType)) : Cond) ∈ lw_gt := tw_t tq_306 rfl
theorem tw_307 : (.methodLink "TickPools$Script" 3 ⟨"java/lang/Object", "<init>", "()V"⟩ : Cond) ∈ lw_gt := tw_t tq_307 rfl
theorem tw_312 : (.instanceMethod yX8_init : Cond) ∈ lw_gt := tw_t tq_312 rfl
theorem tw_313 : ((Jvm.Cond.code ({ cls := "TickPools$Step", name := "<init>", desc := "()V" } : Jvm.MethodName) prog_10_method_1_code (1 : Nat) (Option.none : Option Jvm.ClassFile.FieldType)) : Cond) ∈ lw_gt := tw_t tq_313 rfl
theorem tw_314 : (.methodLink "TickPools$Step" 1 ⟨"java/lang/Object", "<init>", "()V"⟩ : Cond) ∈ lw_gt := tw_t tq_314 rfl
theorem tw_315 : (.fieldLink "TickPools$Step" 7 "TickPools$Step" "kind" "I" : Cond) ∈ lw_gt := tw_t tq_315 rfl
theorem tw_316 : (.fieldLink "TickPools$Runner" 79 "TickPools$Step" "kind" "I" : Cond) ∈ lw_gt := tw_t tq_316 rfl
theorem tw_317 : (.fieldLink "TickPools$Script" 78 "TickPools$Step" "kind" "I" : Cond) ∈ lw_gt := tw_t tq_317 rfl
theorem tw_318 : (.fieldLink "TickPools$Runner" 130 "TickPools$Step" "place" "I" : Cond) ∈ lw_gt := tw_t tq_318 rfl
theorem tw_319 : (.fieldLink "TickPools$Script" 84 "TickPools$Step" "place" "I" : Cond) ∈ lw_gt := tw_t tq_319 rfl
theorem tw_320 : (.fieldLink "TickPools$Runner" 89 "TickPools$Step" "pool" "I" : Cond) ∈ lw_gt := tw_t tq_320 rfl
theorem tw_321 : (.fieldLink "TickPools$Script" 130 "TickPools$Step" "pool" "I" : Cond) ∈ lw_gt := tw_t tq_321 rfl
theorem tw_322 : (.fieldLink "TickPools$Script" 133 "TickPools$Step" "side" "I" : Cond) ∈ lw_gt := tw_t tq_322 rfl
theorem tw_323 : (.fieldLink "TickPools$Runner" 140 "TickPools$Step" "side" "I" : Cond) ∈ lw_gt := tw_t tq_323 rfl
theorem tw_324 : (.fieldLink "TickPools$Runner" 96 "TickPools$Step" "low" "I" : Cond) ∈ lw_gt := tw_t tq_324 rfl
theorem tw_325 : (.fieldLink "TickPools$Script" 136 "TickPools$Step" "low" "I" : Cond) ∈ lw_gt := tw_t tq_325 rfl
theorem tw_326 : (.fieldLink "TickPools$Runner" 99 "TickPools$Step" "high" "I" : Cond) ∈ lw_gt := tw_t tq_326 rfl
theorem tw_327 : (.fieldLink "TickPools$Script" 139 "TickPools$Step" "high" "I" : Cond) ∈ lw_gt := tw_t tq_327 rfl
theorem tw_328 : (.fieldLink "TickPools$Runner" 114 "TickPools$Step" "thing" "I" : Cond) ∈ lw_gt := tw_t tq_328 rfl
theorem tw_329 : (.fieldLink "TickPools$Script" 142 "TickPools$Step" "thing" "I" : Cond) ∈ lw_gt := tw_t tq_329 rfl
theorem tw_330 : (.fieldLink "TickPools$Runner" 102 "TickPools$Step" "amount" "I" : Cond) ∈ lw_gt := tw_t tq_330 rfl
theorem tw_331 : (.fieldLink "TickPools$Script" 146 "TickPools$Step" "amount" "I" : Cond) ∈ lw_gt := tw_t tq_331 rfl
theorem tw_332 : (.fieldLink "TickPools$Runner" 133 "TickPools$Step" "much" "I" : Cond) ∈ lw_gt := tw_t tq_332 rfl
theorem tw_333 : (.fieldLink "TickPools$Script" 149 "TickPools$Step" "much" "I" : Cond) ∈ lw_gt := tw_t tq_333 rfl
theorem tw_334 : (.fieldLink "TickPools$Runner" 66 "TickPools$Step" "after" "I" : Cond) ∈ lw_gt := tw_t tq_334 rfl
theorem tw_335 : (.fieldLink "TickPools$Script" 66 "TickPools$Step" "after" "I" : Cond) ∈ lw_gt := tw_t tq_335 rfl
theorem tw_336 : (.lays "TickPools$Step" "TickPools$Step" "kind" "I" : Cond) ∈ lw_gt := tw_t tq_336 rfl
theorem tw_338 : (.lays "TickPools$Step" "TickPools$Step" "place" "I" : Cond) ∈ lw_gt := tw_t tq_338 rfl
theorem tw_340 : (.lays "TickPools$Step" "TickPools$Step" "pool" "I" : Cond) ∈ lw_gt := tw_t tq_340 rfl
theorem tw_342 : (.lays "TickPools$Step" "TickPools$Step" "side" "I" : Cond) ∈ lw_gt := tw_t tq_342 rfl
theorem tw_344 : (.lays "TickPools$Step" "TickPools$Step" "low" "I" : Cond) ∈ lw_gt := tw_t tq_344 rfl
theorem tw_346 : (.lays "TickPools$Step" "TickPools$Step" "high" "I" : Cond) ∈ lw_gt := tw_t tq_346 rfl
theorem tw_348 : (.lays "TickPools$Step" "TickPools$Step" "thing" "I" : Cond) ∈ lw_gt := tw_t tq_348 rfl
theorem tw_350 : (.lays "TickPools$Step" "TickPools$Step" "amount" "I" : Cond) ∈ lw_gt := tw_t tq_350 rfl
theorem tw_352 : (.lays "TickPools$Step" "TickPools$Step" "much" "I" : Cond) ∈ lw_gt := tw_t tq_352 rfl
theorem tw_354 : (.lays "TickPools$Step" "TickPools$Step" "after" "I" : Cond) ∈ lw_gt := tw_t tq_354 rfl
theorem tw_357 : (.fieldLink "TickPools$Script" 26 "TickPools$Script" "size" "I" : Cond) ∈ lw_gt := tw_t tq_357 rfl
theorem tw_358 : (.fieldLink "TickPools$Runner" 59 "TickPools$Script" "size" "I" : Cond) ∈ lw_gt := tw_t tq_358 rfl
theorem tw_359 : (.fieldLink "TickPools$Script" 9 "TickPools$Script" "tape" "LTickPools$Tape;" : Cond) ∈ lw_gt := tw_t tq_359 rfl
theorem tw_360 : (.fieldLink "TickPools$Script" 17 "TickPools$Script" "steps" "[LTickPools$Step;" : Cond) ∈ lw_gt := tw_t tq_360 rfl
theorem tw_361 : (.fieldLink "TickPools$Script" 22 "TickPools$Script" "open" "[I" : Cond) ∈ lw_gt := tw_t tq_361 rfl
theorem tw_362 : (.fieldLink "TickPools$Script" 35 "TickPools$Script" "deep" "I" : Cond) ∈ lw_gt := tw_t tq_362 rfl
theorem tw_363 : (.lays "TickPools$Script" "TickPools$Script" "size" "I" : Cond) ∈ lw_gt := tw_t tq_363 rfl
theorem tw_365 : (.laysFinal "TickPools$Script" "TickPools$Script" "tape" "LTickPools$Tape;" : Cond) ∈ lw_gt := tw_t tq_365 rfl
theorem tw_367 : (.laysFinal "TickPools$Script" "TickPools$Script" "steps" "[LTickPools$Step;" : Cond) ∈ lw_gt := tw_t tq_367 rfl
theorem tw_369 : (.laysFinal "TickPools$Script" "TickPools$Script" "open" "[I" : Cond) ∈ lw_gt := tw_t tq_369 rfl
theorem tw_371 : (.lays "TickPools$Script" "TickPools$Script" "deep" "I" : Cond) ∈ lw_gt := tw_t tq_371 rfl
theorem tw_376 : (.methodLink "TickPools" 53 yX5_init : Cond) ∈ lw_gt := tw_t tq_376 rfl
theorem tw_377 : (.instanceMethod yX5_init : Cond) ∈ lw_gt := tw_t tq_377 rfl
theorem tw_378 : ((Jvm.Cond.code ({ cls := "TickPools$Runner", name := "<init>", desc := "(LTickPools$Market;LTickPools$Script;LTickPools$Trade;)V" } : Jvm.MethodName) prog_7_method_1_code (4 : Nat) (Option.none : Option Jvm.ClassFile.FieldType)) : Cond) ∈ lw_gt := tw_t tq_378 rfl
theorem tw_379 : (.methodLink "TickPools$Runner" 3 ⟨"java/lang/Object", "<init>", "()V"⟩ : Cond) ∈ lw_gt := tw_t tq_379 rfl
theorem tw_380 : (.fieldLink "TickPools$Runner" 43 "TickPools$Runner" "done" "I" : Cond) ∈ lw_gt := tw_t tq_380 rfl
theorem tw_381 : (.fieldLink "TickPools" 113 "TickPools$Runner" "done" "I" : Cond) ∈ lw_gt := tw_t tq_381 rfl
theorem tw_382 : (.fieldLink "TickPools$Runner" 46 "TickPools$Runner" "failure" "I" : Cond) ∈ lw_gt := tw_t tq_382 rfl
theorem tw_383 : (.fieldLink "TickPools" 110 "TickPools$Runner" "failure" "I" : Cond) ∈ lw_gt := tw_t tq_383 rfl
theorem tw_384 : (.fieldLink "TickPools$Runner" 9 "TickPools$Runner" "market" "LTickPools$Market;" : Cond) ∈ lw_gt := tw_t tq_384 rfl
theorem tw_385 : (.fieldLink "TickPools$Runner" 15 "TickPools$Runner" "script" "LTickPools$Script;" : Cond) ∈ lw_gt := tw_t tq_385 rfl
theorem tw_386 : (.fieldLink "TickPools$Runner" 19 "TickPools$Runner" "trade" "LTickPools$Trade;" : Cond) ∈ lw_gt := tw_t tq_386 rfl
theorem tw_387 : (.fieldLink "TickPools$Runner" 39 "TickPools$Runner" "person" "I" : Cond) ∈ lw_gt := tw_t tq_387 rfl
theorem tw_388 : (.fieldLink "TickPools$Runner" 49 "TickPools$Runner" "at" "I" : Cond) ∈ lw_gt := tw_t tq_388 rfl
theorem tw_389 : (.fieldLink "TickPools$Runner" 52 "TickPools$Runner" "deep" "I" : Cond) ∈ lw_gt := tw_t tq_389 rfl
theorem tw_390 : (.fieldLink "TickPools$Runner" 55 "TickPools$Runner" "got" "J" : Cond) ∈ lw_gt := tw_t tq_390 rfl
theorem tw_391 : (.fieldLink "TickPools$Runner" 25 "TickPools$Runner" "open" "[I" : Cond) ∈ lw_gt := tw_t tq_391 rfl
theorem tw_392 : (.fieldLink "TickPools$Runner" 29 "TickPools$Runner" "rounds" "[I" : Cond) ∈ lw_gt := tw_t tq_392 rfl
theorem tw_393 : (.fieldLink "TickPools$Runner" 32 "TickPools$Runner" "lent" "[I" : Cond) ∈ lw_gt := tw_t tq_393 rfl
theorem tw_394 : (.fieldLink "TickPools$Runner" 35 "TickPools$Runner" "locked" "[Z" : Cond) ∈ lw_gt := tw_t tq_394 rfl
theorem tw_395 : (.lays "TickPools$Runner" "TickPools$Runner" "done" "I" : Cond) ∈ lw_gt := tw_t tq_395 rfl
theorem tw_397 : (.lays "TickPools$Runner" "TickPools$Runner" "failure" "I" : Cond) ∈ lw_gt := tw_t tq_397 rfl
theorem tw_399 : (.laysFinal "TickPools$Runner" "TickPools$Runner" "market" "LTickPools$Market;" : Cond) ∈ lw_gt := tw_t tq_399 rfl
theorem tw_401 : (.laysFinal "TickPools$Runner" "TickPools$Runner" "script" "LTickPools$Script;" : Cond) ∈ lw_gt := tw_t tq_401 rfl
theorem tw_403 : (.laysFinal "TickPools$Runner" "TickPools$Runner" "trade" "LTickPools$Trade;" : Cond) ∈ lw_gt := tw_t tq_403 rfl
theorem tw_405 : (.lays "TickPools$Runner" "TickPools$Runner" "person" "I" : Cond) ∈ lw_gt := tw_t tq_405 rfl
theorem tw_407 : (.lays "TickPools$Runner" "TickPools$Runner" "at" "I" : Cond) ∈ lw_gt := tw_t tq_407 rfl
theorem tw_409 : (.lays "TickPools$Runner" "TickPools$Runner" "deep" "I" : Cond) ∈ lw_gt := tw_t tq_409 rfl
theorem tw_411 : (.lays "TickPools$Runner" "TickPools$Runner" "got" "J" : Cond) ∈ lw_gt := tw_t tq_411 rfl
theorem tw_413 : (.laysFinal "TickPools$Runner" "TickPools$Runner" "open" "[I" : Cond) ∈ lw_gt := tw_t tq_413 rfl
theorem tw_415 : (.laysFinal "TickPools$Runner" "TickPools$Runner" "rounds" "[I" : Cond) ∈ lw_gt := tw_t tq_415 rfl
theorem tw_417 : (.laysFinal "TickPools$Runner" "TickPools$Runner" "lent" "[I" : Cond) ∈ lw_gt := tw_t tq_417 rfl
theorem tw_419 : (.laysFinal "TickPools$Runner" "TickPools$Runner" "locked" "[Z" : Cond) ∈ lw_gt := tw_t tq_419 rfl
theorem tw_425 : (.methodLink "TickPools" 62 yX1_init : Cond) ∈ lw_gt := tw_t tq_425 rfl
theorem tw_426 : (.instanceMethod yX1_init : Cond) ∈ lw_gt := tw_t tq_426 rfl
theorem tw_427 : ((Jvm.Cond.code ({ cls := "TickPools$Finder", name := "<init>", desc := "(LTickPools$Trade;)V" } : Jvm.MethodName) prog_3_method_1_code (2 : Nat) (Option.none : Option Jvm.ClassFile.FieldType)) : Cond) ∈ lw_gt := tw_t tq_427 rfl
theorem tw_428 : (.methodLink "TickPools$Finder" 3 ⟨"java/lang/Object", "<init>", "()V"⟩ : Cond) ∈ lw_gt := tw_t tq_428 rfl
theorem tw_429 : (.fieldLink "TickPools$Finder" 36 "TickPools$Finder" "bestGain" "J" : Cond) ∈ lw_gt := tw_t tq_429 rfl
theorem tw_430 : (.fieldLink "TickPools" 305 "TickPools$Finder" "bestGain" "J" : Cond) ∈ lw_gt := tw_t tq_430 rfl
theorem tw_431 : (.fieldLink "TickPools$Finder" 40 "TickPools$Finder" "bestAmount" "I" : Cond) ∈ lw_gt := tw_t tq_431 rfl
theorem tw_432 : (.fieldLink "TickPools" 318 "TickPools$Finder" "bestAmount" "I" : Cond) ∈ lw_gt := tw_t tq_432 rfl
theorem tw_433 : (.fieldLink "TickPools$Finder" 32 "TickPools$Finder" "bestLength" "I" : Cond) ∈ lw_gt := tw_t tq_433 rfl
theorem tw_434 : (.fieldLink "TickPools" 302 "TickPools$Finder" "bestLength" "I" : Cond) ∈ lw_gt := tw_t tq_434 rfl
theorem tw_435 : (.fieldLink "TickPools$Finder" 9 "TickPools$Finder" "trade" "LTickPools$Trade;" : Cond) ∈ lw_gt := tw_t tq_435 rfl
theorem tw_436 : (.fieldLink "TickPools$Finder" 15 "TickPools$Finder" "best" "[I" : Cond) ∈ lw_gt := tw_t tq_436 rfl
theorem tw_437 : (.fieldLink "TickPools$Finder" 19 "TickPools$Finder" "row" "[I" : Cond) ∈ lw_gt := tw_t tq_437 rfl
theorem tw_438 : (.fieldLink "TickPools$Finder" 22 "TickPools$Finder" "thing" "[I" : Cond) ∈ lw_gt := tw_t tq_438 rfl
theorem tw_439 : (.fieldLink "TickPools$Finder" 25 "TickPools$Finder" "amount" "[J" : Cond) ∈ lw_gt := tw_t tq_439 rfl
theorem tw_440 : (.fieldLink "TickPools$Finder" 29 "TickPools$Finder" "next" "[I" : Cond) ∈ lw_gt := tw_t tq_440 rfl
theorem tw_441 : (.lays "TickPools$Finder" "TickPools$Finder" "bestGain" "J" : Cond) ∈ lw_gt := tw_t tq_441 rfl
theorem tw_443 : (.lays "TickPools$Finder" "TickPools$Finder" "bestAmount" "I" : Cond) ∈ lw_gt := tw_t tq_443 rfl
theorem tw_445 : (.lays "TickPools$Finder" "TickPools$Finder" "bestLength" "I" : Cond) ∈ lw_gt := tw_t tq_445 rfl
theorem tw_447 : (.laysFinal "TickPools$Finder" "TickPools$Finder" "trade" "LTickPools$Trade;" : Cond) ∈ lw_gt := tw_t tq_447 rfl
theorem tw_449 : (.laysFinal "TickPools$Finder" "TickPools$Finder" "best" "[I" : Cond) ∈ lw_gt := tw_t tq_449 rfl
theorem tw_451 : (.laysFinal "TickPools$Finder" "TickPools$Finder" "row" "[I" : Cond) ∈ lw_gt := tw_t tq_451 rfl
theorem tw_453 : (.laysFinal "TickPools$Finder" "TickPools$Finder" "thing" "[I" : Cond) ∈ lw_gt := tw_t tq_453 rfl
theorem tw_455 : (.laysFinal "TickPools$Finder" "TickPools$Finder" "amount" "[J" : Cond) ∈ lw_gt := tw_t tq_455 rfl
theorem tw_457 : (.laysFinal "TickPools$Finder" "TickPools$Finder" "next" "[I" : Cond) ∈ lw_gt := tw_t tq_457 rfl
theorem tw_460 : (.fieldLink "TickPools" 10 "TickPools" "tape" "LTickPools$Tape;" : Cond) ∈ lw_gt := tw_t tq_460 rfl
theorem tw_461 : (.fieldLink "TickPools" 19 "TickPools" "live" "LTickPools$Market;" : Cond) ∈ lw_gt := tw_t tq_461 rfl
theorem tw_462 : (.fieldLink "TickPools" 23 "TickPools" "spare" "LTickPools$Market;" : Cond) ∈ lw_gt := tw_t tq_462 rfl
theorem tw_463 : (.fieldLink "TickPools" 38 "TickPools" "marketReader" "LTickPools$MarketReader;" : Cond) ∈ lw_gt := tw_t tq_463 rfl
theorem tw_464 : (.fieldLink "TickPools" 47 "TickPools" "script" "LTickPools$Script;" : Cond) ∈ lw_gt := tw_t tq_464 rfl
theorem tw_465 : (.fieldLink "TickPools" 56 "TickPools" "runner" "LTickPools$Runner;" : Cond) ∈ lw_gt := tw_t tq_465 rfl
theorem tw_466 : (.fieldLink "TickPools" 29 "TickPools" "trade" "LTickPools$Trade;" : Cond) ∈ lw_gt := tw_t tq_466 rfl
theorem tw_467 : (.fieldLink "TickPools" 65 "TickPools" "finder" "LTickPools$Finder;" : Cond) ∈ lw_gt := tw_t tq_467 rfl
theorem tw_468 : (.laysFinal "TickPools" "TickPools" "tape" "LTickPools$Tape;" : Cond) ∈ lw_gt := tw_t tq_468 rfl
theorem tw_470 : (.laysFinal "TickPools" "TickPools" "live" "LTickPools$Market;" : Cond) ∈ lw_gt := tw_t tq_470 rfl
theorem tw_472 : (.laysFinal "TickPools" "TickPools" "spare" "LTickPools$Market;" : Cond) ∈ lw_gt := tw_t tq_472 rfl
theorem tw_474 : (.laysFinal "TickPools" "TickPools" "marketReader" "LTickPools$MarketReader;" : Cond) ∈ lw_gt := tw_t tq_474 rfl
theorem tw_476 : (.laysFinal "TickPools" "TickPools" "script" "LTickPools$Script;" : Cond) ∈ lw_gt := tw_t tq_476 rfl
theorem tw_478 : (.laysFinal "TickPools" "TickPools" "runner" "LTickPools$Runner;" : Cond) ∈ lw_gt := tw_t tq_478 rfl
theorem tw_480 : (.laysFinal "TickPools" "TickPools" "trade" "LTickPools$Trade;" : Cond) ∈ lw_gt := tw_t tq_480 rfl
theorem tw_482 : (.laysFinal "TickPools" "TickPools" "finder" "LTickPools$Finder;" : Cond) ∈ lw_gt := tw_t tq_482 rfl
theorem tw_485 : (.methodLink "TickPoolsLaw" 13 yX11_feed : Cond) ∈ lw_gt := tw_t tq_485 rfl
theorem tw_486 : (.instanceMethod yX11_feed : Cond) ∈ lw_gt := tw_t tq_486 rfl
theorem tw_487 : (.selects "TickPools" yX11_feed yX11_feed : Cond) ∈ lw_gt := tw_t tq_487 rfl
theorem tw_488 : ((Jvm.Cond.code ({ cls := "TickPools", name := "feed", desc := "(IIIII)I" } : Jvm.MethodName) prog_1_method_2_code (6 : Nat) (Option.some Jvm.ClassFile.FieldType.int)) : Cond) ∈ lw_gt := tw_t tq_488 rfl
theorem tw_489 : (.methodLink "TickPools" 69 yX9_hasRoom : Cond) ∈ lw_gt := tw_t tq_489 rfl
theorem tw_490 : (.instanceMethod yX9_hasRoom : Cond) ∈ lw_gt := tw_t tq_490 rfl
theorem tw_491 : (.selects "TickPools$Tape" yX9_hasRoom yX9_hasRoom : Cond) ∈ lw_gt := tw_t tq_491 rfl
theorem tw_492 : ((Jvm.Cond.code ({ cls := "TickPools$Tape", name := "hasRoom", desc := "()Z" } : Jvm.MethodName) prog_11_method_2_code (1 : Nat) (Option.some Jvm.ClassFile.FieldType.boolean)) : Cond) ∈ lw_gt := tw_t tq_492 rfl
theorem tw_493 : (.methodLink "TickPools" 73 yX9_append : Cond) ∈ lw_gt := tw_t tq_493 rfl
theorem tw_494 : (.instanceMethod yX9_append : Cond) ∈ lw_gt := tw_t tq_494 rfl
theorem tw_495 : (.selects "TickPools$Tape" yX9_append yX9_append : Cond) ∈ lw_gt := tw_t tq_495 rfl
theorem tw_496 : ((Jvm.Cond.code ({ cls := "TickPools$Tape", name := "append", desc := "(I)V" } : Jvm.MethodName) prog_11_method_3_code (3 : Nat) (Option.none : Option Jvm.ClassFile.FieldType)) : Cond) ∈ lw_gt := tw_t tq_496 rfl
theorem tw_497 : (.methodLink "TickPoolsLaw" 18 yX11_end : Cond) ∈ lw_gt := tw_t tq_497 rfl
theorem tw_498 : (.instanceMethod yX11_end : Cond) ∈ lw_gt := tw_t tq_498 rfl
theorem tw_499 : (.selects "TickPools" yX11_end yX11_end : Cond) ∈ lw_gt := tw_t tq_499 rfl
theorem tw_500 : ((Jvm.Cond.code ({ cls := "TickPools", name := "end", desc := "(I)I" } : Jvm.MethodName) prog_1_method_3_code (2 : Nat) (Option.some Jvm.ClassFile.FieldType.int)) : Cond) ∈ lw_gt := tw_t tq_500 rfl
theorem tw_501 : (.methodLink "TickPoolsLaw" 23 yX11_market : Cond) ∈ lw_gt := tw_t tq_501 rfl
theorem tw_502 : (.instanceMethod yX11_market : Cond) ∈ lw_gt := tw_t tq_502 rfl
theorem tw_503 : (.selects "TickPools" yX11_market yX11_market : Cond) ∈ lw_gt := tw_t tq_503 rfl
theorem tw_504 : ((Jvm.Cond.code ({ cls := "TickPools", name := "market", desc := "()I" } : Jvm.MethodName) prog_1_method_4_code (2 : Nat) (Option.some Jvm.ClassFile.FieldType.int)) : Cond) ∈ lw_gt := tw_t tq_504 rfl
theorem tw_505 : (.methodLink "TickPools" 81 yX3_read : Cond) ∈ lw_gt := tw_t tq_505 rfl
theorem tw_506 : (.instanceMethod yX3_read : Cond) ∈ lw_gt := tw_t tq_506 rfl
theorem tw_507 : (.selects "TickPools$MarketReader" yX3_read yX3_read : Cond) ∈ lw_gt := tw_t tq_507 rfl
theorem tw_508 : ((Jvm.Cond.code ({ cls := "TickPools$MarketReader", name := "read", desc := "()Z" } : Jvm.MethodName) prog_5_method_2_code (2 : Nat) (Option.some Jvm.ClassFile.FieldType.boolean)) : Cond) ∈ lw_gt := tw_t tq_508 rfl
theorem tw_509 : (.methodLink "TickPools$MarketReader" 19 yX9_rewind : Cond) ∈ lw_gt := tw_t tq_509 rfl
theorem tw_510 : (.instanceMethod yX9_rewind : Cond) ∈ lw_gt := tw_t tq_510 rfl
theorem tw_511 : (.selects "TickPools$Tape" yX9_rewind yX9_rewind : Cond) ∈ lw_gt := tw_t tq_511 rfl
theorem tw_512 : ((Jvm.Cond.code ({ cls := "TickPools$Tape", name := "rewind", desc := "()V" } : Jvm.MethodName) prog_11_method_4_code (1 : Nat) (Option.none : Option Jvm.ClassFile.FieldType)) : Cond) ∈ lw_gt := tw_t tq_512 rfl
theorem tw_513 : (.methodLink "TickPools$MarketReader" 24 yX2_clear : Cond) ∈ lw_gt := tw_t tq_513 rfl
theorem tw_514 : (.instanceMethod yX2_clear : Cond) ∈ lw_gt := tw_t tq_514 rfl
theorem tw_515 : (.selects "TickPools$Market" yX2_clear yX2_clear : Cond) ∈ lw_gt := tw_t tq_515 rfl
theorem tw_516 : ((Jvm.Cond.code ({ cls := "TickPools$Market", name := "clear", desc := "()V" } : Jvm.MethodName) prog_4_method_2_code (2 : Nat) (Option.none : Option Jvm.ClassFile.FieldType)) : Cond) ∈ lw_gt := tw_t tq_516 rfl
theorem tw_517 : (.methodLink "TickPools$MarketReader" 29 yX3_readClause : Cond) ∈ lw_gt := tw_t tq_517 rfl
theorem tw_519 : (.instanceMethod yX3_readClause : Cond) ∈ lw_gt := tw_t tq_519 rfl
theorem tw_520 : ((Jvm.Cond.code ({ cls := "TickPools$MarketReader", name := "readClause", desc := "(I)Z" } : Jvm.MethodName) prog_5_method_3_code (5 : Nat) (Option.some Jvm.ClassFile.FieldType.boolean)) : Cond) ∈ lw_gt := tw_t tq_520 rfl
theorem tw_521 : (.methodLink "TickPools$MarketReader" 43 yX9_readWord : Cond) ∈ lw_gt := tw_t tq_521 rfl
theorem tw_522 : (.instanceMethod yX9_readWord : Cond) ∈ lw_gt := tw_t tq_522 rfl
theorem tw_523 : (.selects "TickPools$Tape" yX9_readWord yX9_readWord : Cond) ∈ lw_gt := tw_t tq_523 rfl
theorem tw_524 : ((Jvm.Cond.code ({ cls := "TickPools$Tape", name := "readWord", desc := "()Z" } : Jvm.MethodName) prog_11_method_10_code (1 : Nat) (Option.some Jvm.ClassFile.FieldType.boolean)) : Cond) ∈ lw_gt := tw_t tq_524 rfl
theorem tw_525 : (.methodLink "TickPools$Tape" 29 yX9_peek : Cond) ∈ lw_gt := tw_t tq_525 rfl
theorem tw_526 : (.instanceMethod yX9_peek : Cond) ∈ lw_gt := tw_t tq_526 rfl
theorem tw_527 : (.selects "TickPools$Tape" yX9_peek yX9_peek : Cond) ∈ lw_gt := tw_t tq_527 rfl
theorem tw_528 : ((Jvm.Cond.code ({ cls := "TickPools$Tape", name := "peek", desc := "()I" } : Jvm.MethodName) prog_11_method_6_code (1 : Nat) (Option.some Jvm.ClassFile.FieldType.int)) : Cond) ∈ lw_gt := tw_t tq_528 rfl
theorem tw_529 : (.methodLink "TickPools$Tape" 25 yX9_byteAt : Cond) ∈ lw_gt := tw_t tq_529 rfl
theorem tw_531 : (.instanceMethod yX9_byteAt : Cond) ∈ lw_gt := tw_t tq_531 rfl
theorem tw_532 : ((Jvm.Cond.code ({ cls := "TickPools$Tape", name := "byteAt", desc := "(I)I" } : Jvm.MethodName) prog_11_method_7_code (2 : Nat) (Option.some Jvm.ClassFile.FieldType.int)) : Cond) ∈ lw_gt := tw_t tq_532 rfl
theorem tw_533 : (.methodLink "TickPools$Tape" 33 yX9_blame : Cond) ∈ lw_gt := tw_t tq_533 rfl
theorem tw_534 : (.instanceMethod yX9_blame : Cond) ∈ lw_gt := tw_t tq_534 rfl
theorem tw_535 : (.selects "TickPools$Tape" yX9_blame yX9_blame : Cond) ∈ lw_gt := tw_t tq_535 rfl
theorem tw_536 : ((Jvm.Cond.code ({ cls := "TickPools$Tape", name := "blame", desc := "(II)Z" } : Jvm.MethodName) prog_11_method_5_code (3 : Nat) (Option.some Jvm.ClassFile.FieldType.boolean)) : Cond) ∈ lw_gt := tw_t tq_536 rfl
theorem tw_538 : (.methodLink "TickPools$MarketReader" 48 yX9_wordIs : Cond) ∈ lw_gt := tw_t tq_538 rfl
theorem tw_539 : (.instanceMethod yX9_wordIs : Cond) ∈ lw_gt := tw_t tq_539 rfl
theorem tw_540 : (.selects "TickPools$Tape" yX9_wordIs yX9_wordIs : Cond) ∈ lw_gt := tw_t tq_540 rfl
theorem tw_541 : ((Jvm.Cond.code ({ cls := "TickPools$Tape", name := "wordIs", desc := "(Ljava/lang/String;)Z" } : Jvm.MethodName) prog_11_method_11_code (4 : Nat) (Option.some Jvm.ClassFile.FieldType.boolean)) : Cond) ∈ lw_gt := tw_t tq_541 rfl
theorem tw_542 : (.methodLink "TickPools$Tape" 43 ⟨"java/lang/String", "length", "()I"⟩ : Cond) ∈ lw_gt := tw_t tq_542 rfl
theorem tw_543 : (.instanceMethod ⟨"java/lang/String", "length", "()I"⟩ : Cond) ∈ lw_gt := tw_t tq_543 rfl
theorem tw_544 : (.selects "java/lang/String" ⟨"java/lang/String", "length", "()I"⟩ ⟨"java/lang/String", "length", "()I"⟩ : Cond) ∈ lw_gt := tw_t tq_544 rfl
theorem tw_545 : ((Jvm.Cond.code ({ cls := "java/lang/String", name := "length", desc := "()I" } : Jvm.MethodName) prog_15_method_54_code (1 : Nat) (Option.some Jvm.ClassFile.FieldType.int)) : Cond) ∈ lw_gt := tw_t tq_545 rfl
theorem tw_546 : (.methodLink "java/lang/String" 335 ⟨"java/lang/String", "coder", "()B"⟩ : Cond) ∈ lw_gt := tw_t tq_546 rfl
theorem tw_547 : (.instanceMethod ⟨"java/lang/String", "coder", "()B"⟩ : Cond) ∈ lw_gt := tw_t tq_547 rfl
theorem tw_548 : (.selects "java/lang/String" ⟨"java/lang/String", "coder", "()B"⟩ ⟨"java/lang/String", "coder", "()B"⟩ : Cond) ∈ lw_gt := tw_t tq_548 rfl
theorem tw_549 : ((Jvm.Cond.code ({ cls := "java/lang/String", name := "coder", desc := "()B" } : Jvm.MethodName) prog_15_method_152_code (1 : Nat) (Option.some Jvm.ClassFile.FieldType.byte)) : Cond) ∈ lw_gt := tw_t tq_549 rfl
theorem tw_550 : (.fieldLink "java/lang/String" 38 "java/lang/String" "COMPACT_STRINGS" "Z" : Cond) ∈ lw_gt := tw_t tq_550 rfl
theorem tw_552 : (.methodLink "TickPools$Tape" 47 ⟨"java/lang/String", "charAt", "(I)C"⟩ : Cond) ∈ lw_gt := tw_t tq_552 rfl
theorem tw_553 : (.instanceMethod ⟨"java/lang/String", "charAt", "(I)C"⟩ : Cond) ∈ lw_gt := tw_t tq_553 rfl
theorem tw_554 : (.selects "java/lang/String" ⟨"java/lang/String", "charAt", "(I)C"⟩ ⟨"java/lang/String", "charAt", "(I)C"⟩ : Cond) ∈ lw_gt := tw_t tq_554 rfl
theorem tw_555 : ((Jvm.Cond.code ({ cls := "java/lang/String", name := "charAt", desc := "(I)C" } : Jvm.MethodName) prog_15_method_56_code (2 : Nat) (Option.some Jvm.ClassFile.FieldType.char)) : Cond) ∈ lw_gt := tw_t tq_555 rfl
theorem tw_556 : (.methodLink "java/lang/String" 492 ⟨"java/lang/String", "isLatin1", "()Z"⟩ : Cond) ∈ lw_gt := tw_t tq_556 rfl
theorem tw_557 : (.instanceMethod ⟨"java/lang/String", "isLatin1", "()Z"⟩ : Cond) ∈ lw_gt := tw_t tq_557 rfl
theorem tw_558 : (.selects "java/lang/String" ⟨"java/lang/String", "isLatin1", "()Z"⟩ ⟨"java/lang/String", "isLatin1", "()Z"⟩ : Cond) ∈ lw_gt := tw_t tq_558 rfl
theorem tw_559 : ((Jvm.Cond.code ({ cls := "java/lang/String", name := "isLatin1", desc := "()Z" } : Jvm.MethodName) prog_15_method_154_code (1 : Nat) (Option.some Jvm.ClassFile.FieldType.boolean)) : Cond) ∈ lw_gt := tw_t tq_559 rfl
theorem tw_560 : (.methodLink "java/lang/String" 495 ⟨"java/lang/StringLatin1", "charAt", "([BI)C"⟩ : Cond) ∈ lw_gt := tw_t tq_560 rfl
theorem tw_561 : (.static ⟨"java/lang/StringLatin1", "charAt", "([BI)C"⟩ : Cond) ∈ lw_gt := tw_t tq_561 rfl
theorem tw_562 : ((Jvm.Cond.code ({ cls := "java/lang/StringLatin1", name := "charAt", desc := "([BI)C" } : Jvm.MethodName) prog_16_method_2_code (2 : Nat) (Option.some Jvm.ClassFile.FieldType.char)) : Cond) ∈ lw_gt := tw_t tq_562 rfl
theorem tw_563 : (.methodLink "java/lang/StringLatin1" 9 ⟨"java/lang/String", "checkIndex", "(II)V"⟩ : Cond) ∈ lw_gt := tw_t tq_563 rfl
theorem tw_564 : (.static ⟨"java/lang/String", "checkIndex", "(II)V"⟩ : Cond) ∈ lw_gt := tw_t tq_564 rfl
theorem tw_565 : ((Jvm.Cond.code ({ cls := "java/lang/String", name := "checkIndex", desc := "(II)V" } : Jvm.MethodName) prog_15_method_155_code (2 : Nat) (Option.none : Option Jvm.ClassFile.FieldType)) : Cond) ∈ lw_gt := tw_t tq_565 rfl
theorem tw_566 : (.fieldLink "java/lang/String" 1053 "jdk/internal/util/Preconditions" "SIOOBE_FORMATTER" "Ljava/util/function/BiFunction;" : Cond) ∈ lw_gt := tw_t tq_566 rfl
theorem tw_568 : (.methodLink "java/lang/String" 1059 ⟨"jdk/internal/util/Preconditions", "checkIndex", "(IILjava/util/function/BiFunction;)I"⟩ : Cond) ∈ lw_gt := tw_t tq_568 rfl
theorem tw_569 : (.static ⟨"jdk/internal/util/Preconditions", "checkIndex", "(IILjava/util/function/BiFunction;)I"⟩ : Cond) ∈ lw_gt := tw_t tq_569 rfl
theorem tw_570 : ((Jvm.Cond.code ({ cls := "jdk/internal/util/Preconditions", name := "checkIndex", desc := "(IILjava/util/function/BiFunction;)I" } : Jvm.MethodName) prog_19_method_11_code (3 : Nat) (Option.some Jvm.ClassFile.FieldType.int)) : Cond) ∈ lw_gt := tw_t tq_570 rfl
theorem tw_571 : (.methodLink "java/lang/String" 498 ⟨"java/lang/StringUTF16", "charAt", "([BI)C"⟩ : Cond) ∈ lw_gt := tw_t tq_571 rfl
theorem tw_572 : (.static ⟨"java/lang/StringUTF16", "charAt", "([BI)C"⟩ : Cond) ∈ lw_gt := tw_t tq_572 rfl
theorem tw_573 : ((Jvm.Cond.code ({ cls := "java/lang/StringUTF16", name := "charAt", desc := "([BI)C" } : Jvm.MethodName) prog_17_method_83_code (2 : Nat) (Option.some Jvm.ClassFile.FieldType.char)) : Cond) ∈ lw_gt := tw_t tq_573 rfl
theorem tw_574 : (.methodLink "java/lang/StringUTF16" 67 ⟨"java/lang/StringUTF16", "checkIndex", "(I[B)V"⟩ : Cond) ∈ lw_gt := tw_t tq_574 rfl
theorem tw_575 : (.static ⟨"java/lang/StringUTF16", "checkIndex", "(I[B)V"⟩ : Cond) ∈ lw_gt := tw_t tq_575 rfl
theorem tw_576 : ((Jvm.Cond.code ({ cls := "java/lang/StringUTF16", name := "checkIndex", desc := "(I[B)V" } : Jvm.MethodName) prog_17_method_91_code (2 : Nat) (Option.none : Option Jvm.ClassFile.FieldType)) : Cond) ∈ lw_gt := tw_t tq_576 rfl
theorem tw_577 : (.methodLink "java/lang/StringUTF16" 48 ⟨"java/lang/StringUTF16", "length", "([B)I"⟩ : Cond) ∈ lw_gt := tw_t tq_577 rfl
theorem tw_578 : (.static ⟨"java/lang/StringUTF16", "length", "([B)I"⟩ : Cond) ∈ lw_gt := tw_t tq_578 rfl
theorem tw_579 : ((Jvm.Cond.code ({ cls := "java/lang/StringUTF16", name := "length", desc := "([B)I" } : Jvm.MethodName) prog_17_method_6_code (1 : Nat) (Option.some Jvm.ClassFile.FieldType.int)) : Cond) ∈ lw_gt := tw_t tq_579 rfl
theorem tw_580 : (.methodLink "java/lang/StringUTF16" 414 ⟨"java/lang/String", "checkIndex", "(II)V"⟩ : Cond) ∈ lw_gt := tw_t tq_580 rfl
theorem tw_581 : (.methodLink "java/lang/StringUTF16" 71 ⟨"java/lang/StringUTF16", "getChar", "([BI)C"⟩ : Cond) ∈ lw_gt := tw_t tq_581 rfl
theorem tw_582 : (.static ⟨"java/lang/StringUTF16", "getChar", "([BI)C"⟩ : Cond) ∈ lw_gt := tw_t tq_582 rfl
theorem tw_583 : ((Jvm.Cond.code ({ cls := "java/lang/StringUTF16", name := "getChar", desc := "([BI)C" } : Jvm.MethodName) prog_17_method_5_code (2 : Nat) (Option.some Jvm.ClassFile.FieldType.char)) : Cond) ∈ lw_gt := tw_t tq_583 rfl
theorem tw_584 : (.fieldLink "java/lang/StringUTF16" 44 "java/lang/StringUTF16" "$assertionsDisabled" "Z" : Cond) ∈ lw_gt := tw_t tq_584 rfl
theorem tw_586 : (.fieldLink "java/lang/StringUTF16" 59 "java/lang/StringUTF16" "HI_BYTE_SHIFT" "I" : Cond) ∈ lw_gt := tw_t tq_586 rfl
theorem tw_588 : (.fieldLink "java/lang/StringUTF16" 63 "java/lang/StringUTF16" "LO_BYTE_SHIFT" "I" : Cond) ∈ lw_gt := tw_t tq_588 rfl
theorem tw_592 : (.methodLink "TickPools$MarketReader" 56 yX9_blameWord : Cond) ∈ lw_gt := tw_t tq_592 rfl
theorem tw_593 : (.instanceMethod yX9_blameWord : Cond) ∈ lw_gt := tw_t tq_593 rfl
theorem tw_594 : (.selects "TickPools$Tape" yX9_blameWord yX9_blameWord : Cond) ∈ lw_gt := tw_t tq_594 rfl
theorem tw_595 : ((Jvm.Cond.code ({ cls := "TickPools$Tape", name := "blameWord", desc := "(I)Z" } : Jvm.MethodName) prog_11_method_12_code (2 : Nat) (Option.some Jvm.ClassFile.FieldType.boolean)) : Cond) ∈ lw_gt := tw_t tq_595 rfl
theorem tw_596 : (.methodLink "TickPools$MarketReader" 63 yX3_readSizes : Cond) ∈ lw_gt := tw_t tq_596 rfl
theorem tw_598 : (.instanceMethod yX3_readSizes : Cond) ∈ lw_gt := tw_t tq_598 rfl
theorem tw_599 : ((Jvm.Cond.code ({ cls := "TickPools$MarketReader", name := "readSizes", desc := "()Z" } : Jvm.MethodName) prog_5_method_4_code (1 : Nat) (Option.some Jvm.ClassFile.FieldType.boolean)) : Cond) ∈ lw_gt := tw_t tq_599 rfl
theorem tw_600 : (.methodLink "TickPools$MarketReader" 72 yX9_readNumber : Cond) ∈ lw_gt := tw_t tq_600 rfl
theorem tw_601 : (.instanceMethod yX9_readNumber : Cond) ∈ lw_gt := tw_t tq_601 rfl
theorem tw_602 : (.selects "TickPools$Tape" yX9_readNumber yX9_readNumber : Cond) ∈ lw_gt := tw_t tq_602 rfl
theorem tw_603 : ((Jvm.Cond.code ({ cls := "TickPools$Tape", name := "readNumber", desc := "(II)Z" } : Jvm.MethodName) prog_11_method_14_code (5 : Nat) (Option.some Jvm.ClassFile.FieldType.boolean)) : Cond) ∈ lw_gt := tw_t tq_603 rfl
theorem tw_604 : (.methodLink "TickPools$Tape" 54 yX9_isDigit : Cond) ∈ lw_gt := tw_t tq_604 rfl
theorem tw_605 : (.static yX9_isDigit : Cond) ∈ lw_gt := tw_t tq_605 rfl
theorem tw_606 : ((Jvm.Cond.code ({ cls := "TickPools$Tape", name := "isDigit", desc := "(I)Z" } : Jvm.MethodName) prog_11_method_13_code (1 : Nat) (Option.some Jvm.ClassFile.FieldType.boolean)) : Cond) ∈ lw_gt := tw_t tq_606 rfl
theorem tw_607 : (.methodLink "TickPools$MarketReader" 66 yX3_readPool : Cond) ∈ lw_gt := tw_t tq_607 rfl
theorem tw_609 : (.instanceMethod yX3_readPool : Cond) ∈ lw_gt := tw_t tq_609 rfl
theorem tw_610 : ((Jvm.Cond.code ({ cls := "TickPools$MarketReader", name := "readPool", desc := "()Z" } : Jvm.MethodName) prog_5_method_5_code (3 : Nat) (Option.some Jvm.ClassFile.FieldType.boolean)) : Cond) ∈ lw_gt := tw_t tq_610 rfl
theorem tw_611 : (.methodLink "TickPools$MarketReader" 85 yX2_newPool : Cond) ∈ lw_gt := tw_t tq_611 rfl
theorem tw_612 : (.instanceMethod yX2_newPool : Cond) ∈ lw_gt := tw_t tq_612 rfl
theorem tw_613 : (.selects "TickPools$Market" yX2_newPool yX2_newPool : Cond) ∈ lw_gt := tw_t tq_613 rfl
theorem tw_614 : ((Jvm.Cond.code ({ cls := "TickPools$Market", name := "newPool", desc := "()LTickPools$Pool;" } : Jvm.MethodName) prog_4_method_8_code (1 : Nat) (Option.some (Jvm.ClassFile.FieldType.object "TickPools$Pool"))) : Cond) ∈ lw_gt := tw_t tq_614 rfl
theorem tw_615 : (.methodLink "TickPools$MarketReader" 94 yX9_readNumberBut : Cond) ∈ lw_gt := tw_t tq_615 rfl
theorem tw_616 : (.instanceMethod yX9_readNumberBut : Cond) ∈ lw_gt := tw_t tq_616 rfl
theorem tw_617 : (.selects "TickPools$Tape" yX9_readNumberBut yX9_readNumberBut : Cond) ∈ lw_gt := tw_t tq_617 rfl
theorem tw_618 : ((Jvm.Cond.code ({ cls := "TickPools$Tape", name := "readNumberBut", desc := "(II)Z" } : Jvm.MethodName) prog_11_method_15_code (4 : Nat) (Option.some Jvm.ClassFile.FieldType.boolean)) : Cond) ∈ lw_gt := tw_t tq_618 rfl
theorem tw_619 : (.methodLink "TickPools$Tape" 58 yX9_readNumber : Cond) ∈ lw_gt := tw_t tq_619 rfl
theorem tw_620 : (.methodLink "TickPools$MarketReader" 109 yX4_open : Cond) ∈ lw_gt := tw_t tq_620 rfl
theorem tw_621 : (.instanceMethod yX4_open : Cond) ∈ lw_gt := tw_t tq_621 rfl
theorem tw_622 : (.selects "TickPools$Pool" yX4_open yX4_open : Cond) ∈ lw_gt := tw_t tq_622 rfl
theorem tw_623 : ((Jvm.Cond.code ({ cls := "TickPools$Pool", name := "open", desc := "(II)V" } : Jvm.MethodName) prog_6_method_2_code (3 : Nat) (Option.none : Option Jvm.ClassFile.FieldType)) : Cond) ∈ lw_gt := tw_t tq_623 rfl
theorem tw_624 : (.methodLink "TickPools$Pool" 24 yX0_startRoot : Cond) ∈ lw_gt := tw_t tq_624 rfl
theorem tw_625 : (.static yX0_startRoot : Cond) ∈ lw_gt := tw_t tq_625 rfl
theorem tw_626 : ((Jvm.Cond.code ({ cls := "TickPools$Curve", name := "startRoot", desc := "(II)I" } : Jvm.MethodName) prog_2_method_4_code (11 : Nat) (Option.some Jvm.ClassFile.FieldType.int)) : Cond) ∈ lw_gt := tw_t tq_626 rfl
theorem tw_627 : (.constantLong "TickPools$Curve" 19 10000000000 : Cond) ∈ lw_gt := tw_t tq_627 rfl
theorem tw_628 : (.methodLink "TickPools$Curve" 15 yX0_rootAt : Cond) ∈ lw_gt := tw_t tq_628 rfl
theorem tw_629 : (.static yX0_rootAt : Cond) ∈ lw_gt := tw_t tq_629 rfl
theorem tw_630 : ((Jvm.Cond.code ({ cls := "TickPools$Curve", name := "rootAt", desc := "(I)I" } : Jvm.MethodName) prog_2_method_2_code (2 : Nat) (Option.some Jvm.ClassFile.FieldType.int)) : Cond) ∈ lw_gt := tw_t tq_630 rfl
theorem tw_631 : (.fieldLink "TickPools$Curve" 9 "TickPools$Curve" "ROOTS" "[I" : Cond) ∈ lw_gt := tw_t tq_631 rfl
theorem tw_633 : (.constantLong "TickPools$Curve" 21 2 : Cond) ∈ lw_gt := tw_t tq_633 rfl
theorem tw_634 : (.methodLink "TickPools$Pool" 34 yX0_zoneOf : Cond) ∈ lw_gt := tw_t tq_634 rfl
theorem tw_635 : (.static yX0_zoneOf : Cond) ∈ lw_gt := tw_t tq_635 rfl
theorem tw_636 : ((Jvm.Cond.code ({ cls := "TickPools$Curve", name := "zoneOf", desc := "(I)I" } : Jvm.MethodName) prog_2_method_3_code (2 : Nat) (Option.some Jvm.ClassFile.FieldType.int)) : Cond) ∈ lw_gt := tw_t tq_636 rfl
theorem tw_637 : (.methodLink "TickPools$MarketReader" 69 yX3_readPurse : Cond) ∈ lw_gt := tw_t tq_637 rfl
theorem tw_639 : (.instanceMethod yX3_readPurse : Cond) ∈ lw_gt := tw_t tq_639 rfl
theorem tw_640 : ((Jvm.Cond.code ({ cls := "TickPools$MarketReader", name := "readPurse", desc := "()Z" } : Jvm.MethodName) prog_5_method_6_code (3 : Nat) (Option.some Jvm.ClassFile.FieldType.boolean)) : Cond) ∈ lw_gt := tw_t tq_640 rfl
theorem tw_641 : (.constant "TickPools$MarketReader" 113 9999999 : Cond) ∈ lw_gt := tw_t tq_641 rfl
theorem tw_642 : (.methodLink "TickPools$MarketReader" 114 yX2_purseOf : Cond) ∈ lw_gt := tw_t tq_642 rfl
theorem tw_643 : (.instanceMethod yX2_purseOf : Cond) ∈ lw_gt := tw_t tq_643 rfl
theorem tw_644 : (.selects "TickPools$Market" yX2_purseOf yX2_purseOf : Cond) ∈ lw_gt := tw_t tq_644 rfl
theorem tw_645 : ((Jvm.Cond.code ({ cls := "TickPools$Market", name := "purseOf", desc := "(II)I" } : Jvm.MethodName) prog_4_method_9_code (4 : Nat) (Option.some Jvm.ClassFile.FieldType.int)) : Cond) ∈ lw_gt := tw_t tq_645 rfl
theorem tw_646 : (.methodLink "TickPools$MarketReader" 118 yX2_putIntoPurse : Cond) ∈ lw_gt := tw_t tq_646 rfl
theorem tw_647 : (.instanceMethod yX2_putIntoPurse : Cond) ∈ lw_gt := tw_t tq_647 rfl
theorem tw_648 : (.selects "TickPools$Market" yX2_putIntoPurse yX2_putIntoPurse : Cond) ∈ lw_gt := tw_t tq_648 rfl
theorem tw_649 : ((Jvm.Cond.code ({ cls := "TickPools$Market", name := "putIntoPurse", desc := "(III)V" } : Jvm.MethodName) prog_4_method_10_code (5 : Nat) (Option.none : Option Jvm.ClassFile.FieldType)) : Cond) ∈ lw_gt := tw_t tq_649 rfl
theorem tw_650 : (.methodLink "TickPools$MarketReader" 33 yX9_peek : Cond) ∈ lw_gt := tw_t tq_650 rfl
theorem tw_651 : (.methodLink "TickPools$MarketReader" 37 yX9_accept : Cond) ∈ lw_gt := tw_t tq_651 rfl
theorem tw_652 : (.instanceMethod yX9_accept : Cond) ∈ lw_gt := tw_t tq_652 rfl
theorem tw_653 : (.selects "TickPools$Tape" yX9_accept yX9_accept : Cond) ∈ lw_gt := tw_t tq_653 rfl
theorem tw_654 : ((Jvm.Cond.code ({ cls := "TickPools$Tape", name := "accept", desc := "(I)Z" } : Jvm.MethodName) prog_11_method_8_code (2 : Nat) (Option.some Jvm.ClassFile.FieldType.boolean)) : Cond) ∈ lw_gt := tw_t tq_654 rfl
theorem tw_655 : (.methodLink "TickPools$MarketReader" 40 yX9_blameHere : Cond) ∈ lw_gt := tw_t tq_655 rfl
theorem tw_656 : (.instanceMethod yX9_blameHere : Cond) ∈ lw_gt := tw_t tq_656 rfl
theorem tw_657 : (.selects "TickPools$Tape" yX9_blameHere yX9_blameHere : Cond) ∈ lw_gt := tw_t tq_657 rfl
theorem tw_658 : ((Jvm.Cond.code ({ cls := "TickPools$Tape", name := "blameHere", desc := "(I)Z" } : Jvm.MethodName) prog_11_method_9_code (2 : Nat) (Option.some Jvm.ClassFile.FieldType.boolean)) : Cond) ∈ lw_gt := tw_t tq_658 rfl
theorem tw_659 : (.methodLink "TickPools" 87 yX2_copyFrom : Cond) ∈ lw_gt := tw_t tq_659 rfl
theorem tw_660 : (.instanceMethod yX2_copyFrom : Cond) ∈ lw_gt := tw_t tq_660 rfl
theorem tw_661 : (.selects "TickPools$Market" yX2_copyFrom yX2_copyFrom : Cond) ∈ lw_gt := tw_t tq_661 rfl
theorem tw_662 : ((Jvm.Cond.code ({ cls := "TickPools$Market", name := "copyFrom", desc := "(LTickPools$Market;)V" } : Jvm.MethodName) prog_4_method_3_code (3 : Nat) (Option.none : Option Jvm.ClassFile.FieldType)) : Cond) ∈ lw_gt := tw_t tq_662 rfl
theorem tw_663 : (.methodLink "TickPools$Market" 48 ⟨"java/lang/System", "arraycopy", "(Ljava/lang/Object;ILjava/lang/Object;II)V"⟩ : Cond) ∈ lw_gt := tw_t tq_663 rfl
theorem tw_664 : (.static ⟨"java/lang/System", "arraycopy", "(Ljava/lang/Object;ILjava/lang/Object;II)V"⟩ : Cond) ∈ lw_gt := tw_t tq_664 rfl
theorem tw_665 : (.native ⟨"java/lang/System", "arraycopy", "(Ljava/lang/Object;ILjava/lang/Object;II)V"⟩ : Cond) ∈ lw_gt := tw_t tq_665 rfl
theorem tw_666 : (.methodLink "TickPools$Market" 54 yX4_copyFrom : Cond) ∈ lw_gt := tw_t tq_666 rfl
theorem tw_667 : (.instanceMethod yX4_copyFrom : Cond) ∈ lw_gt := tw_t tq_667 rfl
theorem tw_668 : (.selects "TickPools$Pool" yX4_copyFrom yX4_copyFrom : Cond) ∈ lw_gt := tw_t tq_668 rfl
theorem tw_669 : ((Jvm.Cond.code ({ cls := "TickPools$Pool", name := "copyFrom", desc := "(LTickPools$Pool;)V" } : Jvm.MethodName) prog_6_method_3_code (2 : Nat) (Option.none : Option Jvm.ClassFile.FieldType)) : Cond) ∈ lw_gt := tw_t tq_669 rfl
theorem tw_670 : (.methodLink "TickPools$Pool" 59 ⟨"java/lang/System", "arraycopy", "(Ljava/lang/Object;ILjava/lang/Object;II)V"⟩ : Cond) ∈ lw_gt := tw_t tq_670 rfl
theorem tw_671 : (.methodLink "TickPools$Market" 58 yX7_copyFrom : Cond) ∈ lw_gt := tw_t tq_671 rfl
theorem tw_672 : (.instanceMethod yX7_copyFrom : Cond) ∈ lw_gt := tw_t tq_672 rfl
theorem tw_673 : (.selects "TickPools$Stake" yX7_copyFrom yX7_copyFrom : Cond) ∈ lw_gt := tw_t tq_673 rfl
theorem tw_674 : ((Jvm.Cond.code ({ cls := "TickPools$Stake", name := "copyFrom", desc := "(LTickPools$Stake;)V" } : Jvm.MethodName) prog_9_method_3_code (3 : Nat) (Option.none : Option Jvm.ClassFile.FieldType)) : Cond) ∈ lw_gt := tw_t tq_674 rfl
theorem tw_675 : (.methodLink "TickPools$Stake" 35 yX7_open : Cond) ∈ lw_gt := tw_t tq_675 rfl
theorem tw_676 : (.instanceMethod yX7_open : Cond) ∈ lw_gt := tw_t tq_676 rfl
theorem tw_677 : (.selects "TickPools$Stake" yX7_open yX7_open : Cond) ∈ lw_gt := tw_t tq_677 rfl
theorem tw_678 : ((Jvm.Cond.code ({ cls := "TickPools$Stake", name := "open", desc := "(IIIII)V" } : Jvm.MethodName) prog_9_method_2_code (7 : Nat) (Option.none : Option Jvm.ClassFile.FieldType)) : Cond) ∈ lw_gt := tw_t tq_678 rfl
theorem tw_679 : (.methodLink "TickPoolsLaw" 28 yX11_bundle : Cond) ∈ lw_gt := tw_t tq_679 rfl
theorem tw_680 : (.instanceMethod yX11_bundle : Cond) ∈ lw_gt := tw_t tq_680 rfl
theorem tw_681 : (.selects "TickPools" yX11_bundle yX11_bundle : Cond) ∈ lw_gt := tw_t tq_681 rfl
theorem tw_682 : ((Jvm.Cond.code ({ cls := "TickPools", name := "bundle", desc := "(I)I" } : Jvm.MethodName) prog_1_method_5_code (4 : Nat) (Option.some Jvm.ClassFile.FieldType.int)) : Cond) ∈ lw_gt := tw_t tq_682 rfl
theorem tw_683 : (.methodLink "TickPools" 94 yX2_hasPerson : Cond) ∈ lw_gt := tw_t tq_683 rfl
theorem tw_684 : (.instanceMethod yX2_hasPerson : Cond) ∈ lw_gt := tw_t tq_684 rfl
theorem tw_685 : (.selects "TickPools$Market" yX2_hasPerson yX2_hasPerson : Cond) ∈ lw_gt := tw_t tq_685 rfl
theorem tw_686 : ((Jvm.Cond.code ({ cls := "TickPools$Market", name := "hasPerson", desc := "(I)Z" } : Jvm.MethodName) prog_4_method_5_code (2 : Nat) (Option.some Jvm.ClassFile.FieldType.boolean)) : Cond) ∈ lw_gt := tw_t tq_686 rfl
theorem tw_687 : (.methodLink "TickPools" 98 yX6_compile : Cond) ∈ lw_gt := tw_t tq_687 rfl
theorem tw_688 : (.instanceMethod yX6_compile : Cond) ∈ lw_gt := tw_t tq_688 rfl
theorem tw_689 : (.selects "TickPools$Script" yX6_compile yX6_compile : Cond) ∈ lw_gt := tw_t tq_689 rfl
theorem tw_690 : ((Jvm.Cond.code ({ cls := "TickPools$Script", name := "compile", desc := "()Z" } : Jvm.MethodName) prog_8_method_3_code (3 : Nat) (Option.some Jvm.ClassFile.FieldType.boolean)) : Cond) ∈ lw_gt := tw_t tq_690 rfl
theorem tw_691 : (.methodLink "TickPools$Script" 30 yX9_rewind : Cond) ∈ lw_gt := tw_t tq_691 rfl
theorem tw_692 : (.methodLink "TickPools$Script" 38 yX6_readStep : Cond) ∈ lw_gt := tw_t tq_692 rfl
theorem tw_694 : (.instanceMethod yX6_readStep : Cond) ∈ lw_gt := tw_t tq_694 rfl
theorem tw_695 : ((Jvm.Cond.code ({ cls := "TickPools$Script", name := "readStep", desc := "()Z" } : Jvm.MethodName) prog_8_method_6_code (3 : Nat) (Option.some Jvm.ClassFile.FieldType.boolean)) : Cond) ∈ lw_gt := tw_t tq_695 rfl
theorem tw_696 : (.methodLink "TickPools$Script" 69 yX9_readWord : Cond) ∈ lw_gt := tw_t tq_696 rfl
theorem tw_697 : (.methodLink "TickPools$Script" 72 yX6_kindOfWord : Cond) ∈ lw_gt := tw_t tq_697 rfl
theorem tw_699 : (.instanceMethod yX6_kindOfWord : Cond) ∈ lw_gt := tw_t tq_699 rfl
theorem tw_700 : ((Jvm.Cond.code ({ cls := "TickPools$Script", name := "kindOfWord", desc := "()I" } : Jvm.MethodName) prog_8_method_7_code (1 : Nat) (Option.some Jvm.ClassFile.FieldType.int)) : Cond) ∈ lw_gt := tw_t tq_700 rfl
theorem tw_702 : (.methodLink "TickPools$Script" 107 yX9_wordIs : Cond) ∈ lw_gt := tw_t tq_702 rfl
theorem tw_709 : (.methodLink "TickPools$Script" 75 yX9_blameWord : Cond) ∈ lw_gt := tw_t tq_709 rfl
theorem tw_710 : (.methodLink "TickPools$Script" 87 yX6_readRange : Cond) ∈ lw_gt := tw_t tq_710 rfl
theorem tw_712 : (.instanceMethod yX6_readRange : Cond) ∈ lw_gt := tw_t tq_712 rfl
theorem tw_713 : ((Jvm.Cond.code ({ cls := "TickPools$Script", name := "readRange", desc := "(LTickPools$Step;)Z" } : Jvm.MethodName) prog_8_method_9_code (2 : Nat) (Option.some Jvm.ClassFile.FieldType.boolean)) : Cond) ∈ lw_gt := tw_t tq_713 rfl
theorem tw_714 : (.methodLink "TickPools$Script" 123 yX9_readNumber : Cond) ∈ lw_gt := tw_t tq_714 rfl
theorem tw_715 : (.constant "TickPools$Script" 91 99999 : Cond) ∈ lw_gt := tw_t tq_715 rfl
theorem tw_716 : (.methodLink "TickPools$Script" 92 yX6_readAmount : Cond) ∈ lw_gt := tw_t tq_716 rfl
theorem tw_718 : (.instanceMethod yX6_readAmount : Cond) ∈ lw_gt := tw_t tq_718 rfl
theorem tw_719 : ((Jvm.Cond.code ({ cls := "TickPools$Script", name := "readAmount", desc := "(LTickPools$Step;II)Z" } : Jvm.MethodName) prog_8_method_11_code (4 : Nat) (Option.some Jvm.ClassFile.FieldType.boolean)) : Cond) ∈ lw_gt := tw_t tq_719 rfl
theorem tw_720 : (.methodLink "TickPools$Script" 96 yX6_readLeast : Cond) ∈ lw_gt := tw_t tq_720 rfl
theorem tw_722 : (.instanceMethod yX6_readLeast : Cond) ∈ lw_gt := tw_t tq_722 rfl
theorem tw_723 : ((Jvm.Cond.code ({ cls := "TickPools$Script", name := "readLeast", desc := "(LTickPools$Step;)Z" } : Jvm.MethodName) prog_8_method_10_code (2 : Nat) (Option.some Jvm.ClassFile.FieldType.boolean)) : Cond) ∈ lw_gt := tw_t tq_723 rfl
theorem tw_724 : (.constant "TickPools$Script" 145 9999999 : Cond) ∈ lw_gt := tw_t tq_724 rfl
theorem tw_725 : (.methodLink "TickPools$Script" 99 yX6_readPoolAndSide : Cond) ∈ lw_gt := tw_t tq_725 rfl
theorem tw_727 : (.instanceMethod yX6_readPoolAndSide : Cond) ∈ lw_gt := tw_t tq_727 rfl
theorem tw_728 : ((Jvm.Cond.code ({ cls := "TickPools$Script", name := "readPoolAndSide", desc := "(LTickPools$Step;)Z" } : Jvm.MethodName) prog_8_method_8_code (2 : Nat) (Option.some Jvm.ClassFile.FieldType.boolean)) : Cond) ∈ lw_gt := tw_t tq_728 rfl
theorem tw_729 : (.methodLink "TickPools$Script" 102 yX6_readMuch : Cond) ∈ lw_gt := tw_t tq_729 rfl
theorem tw_731 : (.instanceMethod yX6_readMuch : Cond) ∈ lw_gt := tw_t tq_731 rfl
theorem tw_732 : ((Jvm.Cond.code ({ cls := "TickPools$Script", name := "readMuch", desc := "(LTickPools$Step;)Z" } : Jvm.MethodName) prog_8_method_12_code (2 : Nat) (Option.some Jvm.ClassFile.FieldType.boolean)) : Cond) ∈ lw_gt := tw_t tq_732 rfl
theorem tw_733 : (.methodLink "TickPools$Script" 55 yX9_peek : Cond) ∈ lw_gt := tw_t tq_733 rfl
theorem tw_734 : (.methodLink "TickPools$Script" 152 yX9_isDigit : Cond) ∈ lw_gt := tw_t tq_734 rfl
theorem tw_737 : (.methodLink "TickPools$Script" 42 yX6_stepAt : Cond) ∈ lw_gt := tw_t tq_737 rfl
theorem tw_738 : (.instanceMethod yX6_stepAt : Cond) ∈ lw_gt := tw_t tq_738 rfl
theorem tw_739 : (.selects "TickPools$Script" yX6_stepAt yX6_stepAt : Cond) ∈ lw_gt := tw_t tq_739 rfl
theorem tw_740 : ((Jvm.Cond.code ({ cls := "TickPools$Script", name := "stepAt", desc := "(I)LTickPools$Step;" } : Jvm.MethodName) prog_8_method_2_code (2 : Nat) (Option.some (Jvm.ClassFile.FieldType.object "TickPools$Step"))) : Cond) ∈ lw_gt := tw_t tq_740 rfl
theorem tw_741 : (.methodLink "TickPools$Script" 46 yX8_hasBrackets : Cond) ∈ lw_gt := tw_t tq_741 rfl
theorem tw_742 : (.instanceMethod yX8_hasBrackets : Cond) ∈ lw_gt := tw_t tq_742 rfl
theorem tw_743 : (.selects "TickPools$Step" yX8_hasBrackets yX8_hasBrackets : Cond) ∈ lw_gt := tw_t tq_743 rfl
theorem tw_744 : ((Jvm.Cond.code ({ cls := "TickPools$Step", name := "hasBrackets", desc := "()Z" } : Jvm.MethodName) prog_10_method_2_code (1 : Nat) (Option.some Jvm.ClassFile.FieldType.boolean)) : Cond) ∈ lw_gt := tw_t tq_744 rfl
theorem tw_745 : (.methodLink "TickPools$Script" 49 yX6_openBracket : Cond) ∈ lw_gt := tw_t tq_745 rfl
theorem tw_747 : (.instanceMethod yX6_openBracket : Cond) ∈ lw_gt := tw_t tq_747 rfl
theorem tw_748 : ((Jvm.Cond.code ({ cls := "TickPools$Script", name := "openBracket", desc := "()Z" } : Jvm.MethodName) prog_8_method_4_code (1 : Nat) (Option.some Jvm.ClassFile.FieldType.boolean)) : Cond) ∈ lw_gt := tw_t tq_748 rfl
theorem tw_749 : (.methodLink "TickPools$Script" 63 yX9_blameHere : Cond) ∈ lw_gt := tw_t tq_749 rfl
theorem tw_750 : (.methodLink "TickPools$Script" 59 yX9_accept : Cond) ∈ lw_gt := tw_t tq_750 rfl
theorem tw_751 : (.methodLink "TickPools$Script" 52 yX6_closeBrackets : Cond) ∈ lw_gt := tw_t tq_751 rfl
theorem tw_753 : (.instanceMethod yX6_closeBrackets : Cond) ∈ lw_gt := tw_t tq_753 rfl
theorem tw_754 : ((Jvm.Cond.code ({ cls := "TickPools$Script", name := "closeBrackets", desc := "()V" } : Jvm.MethodName) prog_8_method_5_code (2 : Nat) (Option.none : Option Jvm.ClassFile.FieldType)) : Cond) ∈ lw_gt := tw_t tq_754 rfl
theorem tw_755 : (.methodLink "TickPools" 101 yX5_start : Cond) ∈ lw_gt := tw_t tq_755 rfl
theorem tw_756 : (.instanceMethod yX5_start : Cond) ∈ lw_gt := tw_t tq_756 rfl
theorem tw_757 : (.selects "TickPools$Runner" yX5_start yX5_start : Cond) ∈ lw_gt := tw_t tq_757 rfl
theorem tw_758 : ((Jvm.Cond.code ({ cls := "TickPools$Runner", name := "start", desc := "(I)V" } : Jvm.MethodName) prog_7_method_2_code (3 : Nat) (Option.none : Option Jvm.ClassFile.FieldType)) : Cond) ∈ lw_gt := tw_t tq_758 rfl
theorem tw_759 : (.methodLink "TickPools" 104 yX5_goesOn : Cond) ∈ lw_gt := tw_t tq_759 rfl
theorem tw_760 : (.instanceMethod yX5_goesOn : Cond) ∈ lw_gt := tw_t tq_760 rfl
theorem tw_761 : (.selects "TickPools$Runner" yX5_goesOn yX5_goesOn : Cond) ∈ lw_gt := tw_t tq_761 rfl
theorem tw_762 : ((Jvm.Cond.code ({ cls := "TickPools$Runner", name := "goesOn", desc := "()Z" } : Jvm.MethodName) prog_7_method_3_code (1 : Nat) (Option.some Jvm.ClassFile.FieldType.boolean)) : Cond) ∈ lw_gt := tw_t tq_762 rfl
theorem tw_763 : (.methodLink "TickPools" 107 yX5_turn : Cond) ∈ lw_gt := tw_t tq_763 rfl
theorem tw_764 : (.instanceMethod yX5_turn : Cond) ∈ lw_gt := tw_t tq_764 rfl
theorem tw_765 : (.selects "TickPools$Runner" yX5_turn yX5_turn : Cond) ∈ lw_gt := tw_t tq_765 rfl
theorem tw_766 : ((Jvm.Cond.code ({ cls := "TickPools$Runner", name := "turn", desc := "()V" } : Jvm.MethodName) prog_7_method_4_code (4 : Nat) (Option.none : Option Jvm.ClassFile.FieldType)) : Cond) ∈ lw_gt := tw_t tq_766 rfl
theorem tw_767 : (.methodLink "TickPools$Runner" 62 yX6_stepAt : Cond) ∈ lw_gt := tw_t tq_767 rfl
theorem tw_768 : (.methodLink "TickPools$Runner" 71 yX5_closeBracket : Cond) ∈ lw_gt := tw_t tq_768 rfl
theorem tw_770 : (.instanceMethod yX5_closeBracket : Cond) ∈ lw_gt := tw_t tq_770 rfl
theorem tw_771 : ((Jvm.Cond.code ({ cls := "TickPools$Runner", name := "closeBracket", desc := "(LTickPools$Step;)V" } : Jvm.MethodName) prog_7_method_16_code (3 : Nat) (Option.none : Option Jvm.ClassFile.FieldType)) : Cond) ∈ lw_gt := tw_t tq_771 rfl
theorem tw_772 : (.methodLink "TickPools$Runner" 219 yX5_giveBack : Cond) ∈ lw_gt := tw_t tq_772 rfl
theorem tw_774 : (.instanceMethod yX5_giveBack : Cond) ∈ lw_gt := tw_t tq_774 rfl
theorem tw_775 : ((Jvm.Cond.code ({ cls := "TickPools$Runner", name := "giveBack", desc := "(LTickPools$Step;I)V" } : Jvm.MethodName) prog_7_method_17_code (5 : Nat) (Option.none : Option Jvm.ClassFile.FieldType)) : Cond) ∈ lw_gt := tw_t tq_775 rfl
theorem tw_776 : (.methodLink "TickPools$Runner" 136 yX2_poolAt : Cond) ∈ lw_gt := tw_t tq_776 rfl
theorem tw_777 : (.instanceMethod yX2_poolAt : Cond) ∈ lw_gt := tw_t tq_777 rfl
theorem tw_778 : (.selects "TickPools$Market" yX2_poolAt yX2_poolAt : Cond) ∈ lw_gt := tw_t tq_778 rfl
theorem tw_779 : ((Jvm.Cond.code ({ cls := "TickPools$Market", name := "poolAt", desc := "(I)LTickPools$Pool;" } : Jvm.MethodName) prog_4_method_6_code (2 : Nat) (Option.some (Jvm.ClassFile.FieldType.object "TickPools$Pool"))) : Cond) ∈ lw_gt := tw_t tq_779 rfl
theorem tw_780 : (.methodLink "TickPools$Runner" 212 yX5_setLocked : Cond) ∈ lw_gt := tw_t tq_780 rfl
theorem tw_782 : (.instanceMethod yX5_setLocked : Cond) ∈ lw_gt := tw_t tq_782 rfl
theorem tw_783 : ((Jvm.Cond.code ({ cls := "TickPools$Runner", name := "setLocked", desc := "(IZ)V" } : Jvm.MethodName) prog_7_method_7_code (3 : Nat) (Option.none : Option Jvm.ClassFile.FieldType)) : Cond) ∈ lw_gt := tw_t tq_783 rfl
theorem tw_784 : (.constantLong "TickPools$Runner" 225 1000 : Cond) ∈ lw_gt := tw_t tq_784 rfl
theorem tw_785 : (.methodLink "TickPools$Runner" 227 yX0_upwards : Cond) ∈ lw_gt := tw_t tq_785 rfl
theorem tw_786 : (.static yX0_upwards : Cond) ∈ lw_gt := tw_t tq_786 rfl
theorem tw_787 : ((Jvm.Cond.code ({ cls := "TickPools$Curve", name := "upwards", desc := "(JJ)J" } : Jvm.MethodName) prog_2_method_6_code (4 : Nat) (Option.some Jvm.ClassFile.FieldType.long)) : Cond) ∈ lw_gt := tw_t tq_787 rfl
theorem tw_788 : (.methodLink "TickPools$Runner" 143 yX4_thingOn : Cond) ∈ lw_gt := tw_t tq_788 rfl
theorem tw_789 : (.instanceMethod yX4_thingOn : Cond) ∈ lw_gt := tw_t tq_789 rfl
theorem tw_790 : (.selects "TickPools$Pool" yX4_thingOn yX4_thingOn : Cond) ∈ lw_gt := tw_t tq_790 rfl
theorem tw_791 : ((Jvm.Cond.code ({ cls := "TickPools$Pool", name := "thingOn", desc := "(I)I" } : Jvm.MethodName) prog_6_method_4_code (2 : Nat) (Option.some Jvm.ClassFile.FieldType.int)) : Cond) ∈ lw_gt := tw_t tq_791 rfl
theorem tw_792 : (.methodLink "TickPools$Runner" 120 yX2_purseOf : Cond) ∈ lw_gt := tw_t tq_792 rfl
theorem tw_793 : (.methodLink "TickPools$Runner" 75 yX5_fail : Cond) ∈ lw_gt := tw_t tq_793 rfl
theorem tw_795 : (.instanceMethod yX5_fail : Cond) ∈ lw_gt := tw_t tq_795 rfl
theorem tw_796 : ((Jvm.Cond.code ({ cls := "TickPools$Runner", name := "fail", desc := "(LTickPools$Step;I)V" } : Jvm.MethodName) prog_7_method_5_code (3 : Nat) (Option.none : Option Jvm.ClassFile.FieldType)) : Cond) ∈ lw_gt := tw_t tq_796 rfl
theorem tw_797 : (.methodLink "TickPools$Runner" 208 yX2_payOut : Cond) ∈ lw_gt := tw_t tq_797 rfl
theorem tw_798 : (.instanceMethod yX2_payOut : Cond) ∈ lw_gt := tw_t tq_798 rfl
theorem tw_799 : (.selects "TickPools$Market" yX2_payOut yX2_payOut : Cond) ∈ lw_gt := tw_t tq_799 rfl
theorem tw_800 : ((Jvm.Cond.code ({ cls := "TickPools$Market", name := "payOut", desc := "(LTickPools$Pool;III)V" } : Jvm.MethodName) prog_4_method_11_code (5 : Nat) (Option.none : Option Jvm.ClassFile.FieldType)) : Cond) ∈ lw_gt := tw_t tq_800 rfl
theorem tw_802 : (.static yX11_isSide : Cond) ∈ lw_gt := tw_t tq_802 rfl
theorem tw_803 : ((Jvm.Cond.code ({ cls := "TickPools", name := "isSide", desc := "(I)Z" } : Jvm.MethodName) prog_1_method_33_code (1 : Nat) (Option.some Jvm.ClassFile.FieldType.boolean)) : Cond) ∈ lw_gt := tw_t tq_803 rfl
theorem tw_804 : (.methodLink "TickPools$Market" 68 yX4_thingOn : Cond) ∈ lw_gt := tw_t tq_804 rfl
theorem tw_805 : (.methodLink "TickPools$Market" 72 yX2_putIntoPurse : Cond) ∈ lw_gt := tw_t tq_805 rfl
theorem tw_806 : (.methodLink "TickPools$Runner" 233 yX2_share : Cond) ∈ lw_gt := tw_t tq_806 rfl
theorem tw_807 : (.instanceMethod yX2_share : Cond) ∈ lw_gt := tw_t tq_807 rfl
theorem tw_808 : (.selects "TickPools$Market" yX2_share yX2_share : Cond) ∈ lw_gt := tw_t tq_808 rfl
theorem tw_809 : ((Jvm.Cond.code ({ cls := "TickPools$Market", name := "share", desc := "(IIJ)V" } : Jvm.MethodName) prog_4_method_23_code (14 : Nat) (Option.none : Option Jvm.ClassFile.FieldType)) : Cond) ∈ lw_gt := tw_t tq_809 rfl
theorem tw_810 : (.methodLink "TickPools$Market" 102 yX2_poolAt : Cond) ∈ lw_gt := tw_t tq_810 rfl
theorem tw_811 : (.methodLink "TickPools$Market" 182 yX2_liquidityAt : Cond) ∈ lw_gt := tw_t tq_811 rfl
theorem tw_812 : (.instanceMethod yX2_liquidityAt : Cond) ∈ lw_gt := tw_t tq_812 rfl
theorem tw_813 : (.selects "TickPools$Market" yX2_liquidityAt yX2_liquidityAt : Cond) ∈ lw_gt := tw_t tq_813 rfl
theorem tw_814 : ((Jvm.Cond.code ({ cls := "TickPools$Market", name := "liquidityAt", desc := "(II)J" } : Jvm.MethodName) prog_4_method_13_code (7 : Nat) (Option.some Jvm.ClassFile.FieldType.long)) : Cond) ∈ lw_gt := tw_t tq_814 rfl
theorem tw_815 : (.constantLong "TickPools$Market" 189 100 : Cond) ∈ lw_gt := tw_t tq_815 rfl
theorem tw_816 : (.constantLong "TickPools$Market" 191 1048576 : Cond) ∈ lw_gt := tw_t tq_816 rfl
theorem tw_817 : (.methodLink "TickPools$Market" 193 yX7_reaches : Cond) ∈ lw_gt := tw_t tq_817 rfl
theorem tw_818 : (.instanceMethod yX7_reaches : Cond) ∈ lw_gt := tw_t tq_818 rfl
theorem tw_819 : (.selects "TickPools$Stake" yX7_reaches yX7_reaches : Cond) ∈ lw_gt := tw_t tq_819 rfl
theorem tw_820 : ((Jvm.Cond.code ({ cls := "TickPools$Stake", name := "reaches", desc := "(I)Z" } : Jvm.MethodName) prog_9_method_5_code (2 : Nat) (Option.some Jvm.ClassFile.FieldType.boolean)) : Cond) ∈ lw_gt := tw_t tq_820 rfl
theorem tw_821 : (.methodLink "TickPools$Runner" 82 yX5_doIn : Cond) ∈ lw_gt := tw_t tq_821 rfl
theorem tw_823 : (.instanceMethod yX5_doIn : Cond) ∈ lw_gt := tw_t tq_823 rfl
theorem tw_824 : ((Jvm.Cond.code ({ cls := "TickPools$Runner", name := "doIn", desc := "(LTickPools$Step;)Z" } : Jvm.MethodName) prog_7_method_9_code (6 : Nat) (Option.some Jvm.ClassFile.FieldType.boolean)) : Cond) ∈ lw_gt := tw_t tq_824 rfl
theorem tw_825 : (.methodLink "TickPools$Runner" 92 yX5_isLocked : Cond) ∈ lw_gt := tw_t tq_825 rfl
theorem tw_827 : (.instanceMethod yX5_isLocked : Cond) ∈ lw_gt := tw_t tq_827 rfl
theorem tw_828 : ((Jvm.Cond.code ({ cls := "TickPools$Runner", name := "isLocked", desc := "(I)Z" } : Jvm.MethodName) prog_7_method_6_code (2 : Nat) (Option.some Jvm.ClassFile.FieldType.boolean)) : Cond) ∈ lw_gt := tw_t tq_828 rfl
theorem tw_829 : (.methodLink "TickPools$Runner" 149 yX5_muchOf : Cond) ∈ lw_gt := tw_t tq_829 rfl
theorem tw_831 : (.instanceMethod yX5_muchOf : Cond) ∈ lw_gt := tw_t tq_831 rfl
theorem tw_832 : ((Jvm.Cond.code ({ cls := "TickPools$Runner", name := "muchOf", desc := "(LTickPools$Step;I)J" } : Jvm.MethodName) prog_7_method_8_code (3 : Nat) (Option.some Jvm.ClassFile.FieldType.long)) : Cond) ∈ lw_gt := tw_t tq_832 rfl
theorem tw_834 : (.static yX11_lastTick : Cond) ∈ lw_gt := tw_t tq_834 rfl
theorem tw_835 : ((Jvm.Cond.code ({ cls := "TickPools", name := "lastTick", desc := "(I)I" } : Jvm.MethodName) prog_1_method_35_code (1 : Nat) (Option.some Jvm.ClassFile.FieldType.int)) : Cond) ∈ lw_gt := tw_t tq_835 rfl
theorem tw_836 : (.methodLink "TickPools$Runner" 156 yX10_pour : Cond) ∈ lw_gt := tw_t tq_836 rfl
theorem tw_837 : (.instanceMethod yX10_pour : Cond) ∈ lw_gt := tw_t tq_837 rfl
theorem tw_838 : (.selects "TickPools$Trade" yX10_pour yX10_pour : Cond) ∈ lw_gt := tw_t tq_838 rfl
theorem tw_839 : ((Jvm.Cond.code ({ cls := "TickPools$Trade", name := "pour", desc := "(LTickPools$Market;IIIJIZ)V" } : Jvm.MethodName) prog_12_method_2_code (10 : Nat) (Option.none : Option Jvm.ClassFile.FieldType)) : Cond) ∈ lw_gt := tw_t tq_839 rfl
theorem tw_840 : (.methodLink "TickPools$Trade" 9 yX10_start : Cond) ∈ lw_gt := tw_t tq_840 rfl
theorem tw_842 : (.instanceMethod yX10_start : Cond) ∈ lw_gt := tw_t tq_842 rfl
theorem tw_843 : ((Jvm.Cond.code ({ cls := "TickPools$Trade", name := "start", desc := "(LTickPools$Market;IIJZ)Z" } : Jvm.MethodName) prog_12_method_4_code (7 : Nat) (Option.some Jvm.ClassFile.FieldType.boolean)) : Cond) ∈ lw_gt := tw_t tq_843 rfl
theorem tw_844 : (.methodLink "TickPools$Trade" 63 yX2_poolAt : Cond) ∈ lw_gt := tw_t tq_844 rfl
theorem tw_846 : (.methodLink "TickPools$Trade" 97 yX4_mark : Cond) ∈ lw_gt := tw_t tq_846 rfl
theorem tw_847 : (.instanceMethod yX4_mark : Cond) ∈ lw_gt := tw_t tq_847 rfl
theorem tw_848 : (.selects "TickPools$Pool" yX4_mark yX4_mark : Cond) ∈ lw_gt := tw_t tq_848 rfl
theorem tw_849 : ((Jvm.Cond.code ({ cls := "TickPools$Pool", name := "mark", desc := "(I)V" } : Jvm.MethodName) prog_6_method_8_code (4 : Nat) (Option.none : Option Jvm.ClassFile.FieldType)) : Cond) ∈ lw_gt := tw_t tq_849 rfl
theorem tw_850 : (.methodLink "TickPools$Pool" 69 yX4_sumAt : Cond) ∈ lw_gt := tw_t tq_850 rfl
theorem tw_851 : (.instanceMethod yX4_sumAt : Cond) ∈ lw_gt := tw_t tq_851 rfl
theorem tw_852 : (.selects "TickPools$Pool" yX4_sumAt yX4_sumAt : Cond) ∈ lw_gt := tw_t tq_852 rfl
theorem tw_853 : ((Jvm.Cond.code ({ cls := "TickPools$Pool", name := "sumAt", desc := "(I)I" } : Jvm.MethodName) prog_6_method_9_code (5 : Nat) (Option.some Jvm.ClassFile.FieldType.int)) : Cond) ∈ lw_gt := tw_t tq_853 rfl
theorem tw_854 : (.methodLink "TickPools$Trade" 30 yX10_pourStep : Cond) ∈ lw_gt := tw_t tq_854 rfl
theorem tw_856 : (.instanceMethod yX10_pourStep : Cond) ∈ lw_gt := tw_t tq_856 rfl
theorem tw_857 : ((Jvm.Cond.code ({ cls := "TickPools$Trade", name := "pourStep", desc := "(I)V" } : Jvm.MethodName) prog_12_method_5_code (17 : Nat) (Option.none : Option Jvm.ClassFile.FieldType)) : Cond) ∈ lw_gt := tw_t tq_857 rfl
theorem tw_858 : (.methodLink "TickPools$Trade" 100 yX10_aimBefore : Cond) ∈ lw_gt := tw_t tq_858 rfl
theorem tw_860 : (.instanceMethod yX10_aimBefore : Cond) ∈ lw_gt := tw_t tq_860 rfl
theorem tw_861 : ((Jvm.Cond.code ({ cls := "TickPools$Trade", name := "aimBefore", desc := "(I)I" } : Jvm.MethodName) prog_12_method_7_code (4 : Nat) (Option.some Jvm.ClassFile.FieldType.int)) : Cond) ∈ lw_gt := tw_t tq_861 rfl
theorem tw_862 : (.methodLink "TickPools$Trade" 140 yX2_nextEdge : Cond) ∈ lw_gt := tw_t tq_862 rfl
theorem tw_863 : (.instanceMethod yX2_nextEdge : Cond) ∈ lw_gt := tw_t tq_863 rfl
theorem tw_864 : (.selects "TickPools$Market" yX2_nextEdge yX2_nextEdge : Cond) ∈ lw_gt := tw_t tq_864 rfl
theorem tw_865 : ((Jvm.Cond.code ({ cls := "TickPools$Market", name := "nextEdge", desc := "(III)I" } : Jvm.MethodName) prog_4_method_14_code (7 : Nat) (Option.some Jvm.ClassFile.FieldType.int)) : Cond) ∈ lw_gt := tw_t tq_865 rfl
theorem tw_866 : (.methodLink "TickPools$Market" 98 yX2_nearer : Cond) ∈ lw_gt := tw_t tq_866 rfl
theorem tw_867 : (.static yX2_nearer : Cond) ∈ lw_gt := tw_t tq_867 rfl
theorem tw_868 : ((Jvm.Cond.code ({ cls := "TickPools$Market", name := "nearer", desc := "(IIII)I" } : Jvm.MethodName) prog_4_method_15_code (4 : Nat) (Option.some Jvm.ClassFile.FieldType.int)) : Cond) ∈ lw_gt := tw_t tq_868 rfl
theorem tw_869 : (.methodLink "TickPools$Trade" 103 yX0_rootAt : Cond) ∈ lw_gt := tw_t tq_869 rfl
theorem tw_870 : (.methodLink "TickPools$Trade" 111 yX2_liquidityAt : Cond) ∈ lw_gt := tw_t tq_870 rfl
theorem tw_871 : (.methodLink "TickPools$Trade" 115 yX0_between : Cond) ∈ lw_gt := tw_t tq_871 rfl
theorem tw_872 : (.static yX0_between : Cond) ∈ lw_gt := tw_t tq_872 rfl
theorem tw_873 : ((Jvm.Cond.code ({ cls := "TickPools$Curve", name := "between", desc := "(ZJJJZ)J" } : Jvm.MethodName) prog_2_method_5_code (18 : Nat) (Option.some Jvm.ClassFile.FieldType.long)) : Cond) ∈ lw_gt := tw_t tq_873 rfl
theorem tw_874 : (.constantLong "TickPools$Curve" 23 100000 : Cond) ∈ lw_gt := tw_t tq_874 rfl
theorem tw_875 : (.constantLong "TickPools$Trade" 119 1000 : Cond) ∈ lw_gt := tw_t tq_875 rfl
theorem tw_876 : (.methodLink "TickPools$Trade" 121 yX0_upwards : Cond) ∈ lw_gt := tw_t tq_876 rfl
theorem tw_877 : (.methodLink "TickPools$Trade" 125 yX0_rootBehindIn : Cond) ∈ lw_gt := tw_t tq_877 rfl
theorem tw_878 : (.static yX0_rootBehindIn : Cond) ∈ lw_gt := tw_t tq_878 rfl
theorem tw_879 : ((Jvm.Cond.code ({ cls := "TickPools$Curve", name := "rootBehindIn", desc := "(IJJJ)I" } : Jvm.MethodName) prog_2_method_7_code (9 : Nat) (Option.some Jvm.ClassFile.FieldType.int)) : Cond) ∈ lw_gt := tw_t tq_879 rfl
theorem tw_880 : (.methodLink "TickPools$Curve" 25 yX0_upwards : Cond) ∈ lw_gt := tw_t tq_880 rfl
theorem tw_881 : (.methodLink "TickPools$Trade" 129 yX10_takeIn : Cond) ∈ lw_gt := tw_t tq_881 rfl
theorem tw_883 : (.instanceMethod yX10_takeIn : Cond) ∈ lw_gt := tw_t tq_883 rfl
theorem tw_884 : ((Jvm.Cond.code ({ cls := "TickPools$Trade", name := "takeIn", desc := "(JJ)V" } : Jvm.MethodName) prog_12_method_8_code (5 : Nat) (Option.none : Option Jvm.ClassFile.FieldType)) : Cond) ∈ lw_gt := tw_t tq_884 rfl
theorem tw_885 : (.methodLink "TickPools$Trade" 144 yX2_share : Cond) ∈ lw_gt := tw_t tq_885 rfl
theorem tw_886 : (.methodLink "TickPools$Trade" 133 yX10_arrive : Cond) ∈ lw_gt := tw_t tq_886 rfl
theorem tw_888 : (.instanceMethod yX10_arrive : Cond) ∈ lw_gt := tw_t tq_888 rfl
theorem tw_889 : ((Jvm.Cond.code ({ cls := "TickPools$Trade", name := "arrive", desc := "(IZZ)V" } : Jvm.MethodName) prog_12_method_9_code (4 : Nat) (Option.none : Option Jvm.ClassFile.FieldType)) : Cond) ∈ lw_gt := tw_t tq_889 rfl
theorem tw_890 : (.methodLink "TickPools$Trade" 148 yX10_zoneShortOf : Cond) ∈ lw_gt := tw_t tq_890 rfl
theorem tw_892 : (.instanceMethod yX10_zoneShortOf : Cond) ∈ lw_gt := tw_t tq_892 rfl
theorem tw_893 : ((Jvm.Cond.code ({ cls := "TickPools$Trade", name := "zoneShortOf", desc := "(I)I" } : Jvm.MethodName) prog_12_method_10_code (3 : Nat) (Option.some Jvm.ClassFile.FieldType.int)) : Cond) ∈ lw_gt := tw_t tq_893 rfl
theorem tw_894 : (.methodLink "TickPools$Trade" 47 yX2_dropAt : Cond) ∈ lw_gt := tw_t tq_894 rfl
theorem tw_895 : (.instanceMethod yX2_dropAt : Cond) ∈ lw_gt := tw_t tq_895 rfl
theorem tw_896 : (.selects "TickPools$Market" yX2_dropAt yX2_dropAt : Cond) ∈ lw_gt := tw_t tq_896 rfl
theorem tw_897 : ((Jvm.Cond.code ({ cls := "TickPools$Market", name := "dropAt", desc := "(III)V" } : Jvm.MethodName) prog_4_method_22_code (7 : Nat) (Option.none : Option Jvm.ClassFile.FieldType)) : Cond) ∈ lw_gt := tw_t tq_897 rfl
theorem tw_898 : (.methodLink "TickPools$Market" 175 yX2_withdraw : Cond) ∈ lw_gt := tw_t tq_898 rfl
theorem tw_899 : (.instanceMethod yX2_withdraw : Cond) ∈ lw_gt := tw_t tq_899 rfl
theorem tw_900 : (.selects "TickPools$Market" yX2_withdraw yX2_withdraw : Cond) ∈ lw_gt := tw_t tq_900 rfl
theorem tw_901 : ((Jvm.Cond.code ({ cls := "TickPools$Market", name := "withdraw", desc := "(II)V" } : Jvm.MethodName) prog_4_method_20_code (9 : Nat) (Option.none : Option Jvm.ClassFile.FieldType)) : Cond) ∈ lw_gt := tw_t tq_901 rfl
theorem tw_902 : (.methodLink "TickPools$Market" 157 yX2_stakeAt : Cond) ∈ lw_gt := tw_t tq_902 rfl
theorem tw_903 : (.instanceMethod yX2_stakeAt : Cond) ∈ lw_gt := tw_t tq_903 rfl
theorem tw_904 : (.selects "TickPools$Market" yX2_stakeAt yX2_stakeAt : Cond) ∈ lw_gt := tw_t tq_904 rfl
theorem tw_905 : ((Jvm.Cond.code ({ cls := "TickPools$Market", name := "stakeAt", desc := "(I)LTickPools$Stake;" } : Jvm.MethodName) prog_4_method_7_code (2 : Nat) (Option.some (Jvm.ClassFile.FieldType.object "TickPools$Stake"))) : Cond) ∈ lw_gt := tw_t tq_905 rfl
theorem tw_906 : (.methodLink "TickPools$Market" 144 yX7_settle : Cond) ∈ lw_gt := tw_t tq_906 rfl
theorem tw_907 : (.instanceMethod yX7_settle : Cond) ∈ lw_gt := tw_t tq_907 rfl
theorem tw_908 : (.selects "TickPools$Stake" yX7_settle yX7_settle : Cond) ∈ lw_gt := tw_t tq_908 rfl
theorem tw_909 : ((Jvm.Cond.code ({ cls := "TickPools$Stake", name := "settle", desc := "()V" } : Jvm.MethodName) prog_9_method_7_code (2 : Nat) (Option.none : Option Jvm.ClassFile.FieldType)) : Cond) ∈ lw_gt := tw_t tq_909 rfl
theorem tw_910 : (.methodLink "TickPools$Stake" 41 yX7_owed : Cond) ∈ lw_gt := tw_t tq_910 rfl
theorem tw_911 : (.instanceMethod yX7_owed : Cond) ∈ lw_gt := tw_t tq_911 rfl
theorem tw_912 : (.selects "TickPools$Stake" yX7_owed yX7_owed : Cond) ∈ lw_gt := tw_t tq_912 rfl
theorem tw_913 : ((Jvm.Cond.code ({ cls := "TickPools$Stake", name := "owed", desc := "(I)J" } : Jvm.MethodName) prog_9_method_6_code (2 : Nat) (Option.some Jvm.ClassFile.FieldType.long)) : Cond) ∈ lw_gt := tw_t tq_913 rfl
theorem tw_914 : (.constantLong "TickPools$Stake" 39 1048576 : Cond) ∈ lw_gt := tw_t tq_914 rfl
theorem tw_915 : (.methodLink "TickPools$Market" 109 yX7_liesIn : Cond) ∈ lw_gt := tw_t tq_915 rfl
theorem tw_916 : (.instanceMethod yX7_liesIn : Cond) ∈ lw_gt := tw_t tq_916 rfl
theorem tw_917 : (.selects "TickPools$Stake" yX7_liesIn yX7_liesIn : Cond) ∈ lw_gt := tw_t tq_917 rfl
theorem tw_918 : ((Jvm.Cond.code ({ cls := "TickPools$Stake", name := "liesIn", desc := "(LTickPools$Pool;JIZ)J" } : Jvm.MethodName) prog_9_method_8_code (7 : Nat) (Option.some Jvm.ClassFile.FieldType.long)) : Cond) ∈ lw_gt := tw_t tq_918 rfl
theorem tw_919 : (.methodLink "TickPools$Stake" 50 yX0_rootAt : Cond) ∈ lw_gt := tw_t tq_919 rfl
theorem tw_920 : (.methodLink "TickPools$Stake" 59 yX0_between : Cond) ∈ lw_gt := tw_t tq_920 rfl
theorem tw_921 : (.methodLink "TickPools$Market" 147 yX2_payOut : Cond) ∈ lw_gt := tw_t tq_921 rfl
theorem tw_922 : (.methodLink "TickPools$Market" 168 yX2_remove : Cond) ∈ lw_gt := tw_t tq_922 rfl
theorem tw_924 : (.instanceMethod yX2_remove : Cond) ∈ lw_gt := tw_t tq_924 rfl
theorem tw_925 : ((Jvm.Cond.code ({ cls := "TickPools$Market", name := "remove", desc := "(I)V" } : Jvm.MethodName) prog_4_method_21_code (4 : Nat) (Option.none : Option Jvm.ClassFile.FieldType)) : Cond) ∈ lw_gt := tw_t tq_925 rfl
theorem tw_926 : (.methodLink "TickPools$Trade" 53 yX10_finish : Cond) ∈ lw_gt := tw_t tq_926 rfl
theorem tw_928 : (.instanceMethod yX10_finish : Cond) ∈ lw_gt := tw_t tq_928 rfl
theorem tw_929 : ((Jvm.Cond.code ({ cls := "TickPools$Trade", name := "finish", desc := "(I)V" } : Jvm.MethodName) prog_12_method_11_code (2 : Nat) (Option.none : Option Jvm.ClassFile.FieldType)) : Cond) ∈ lw_gt := tw_t tq_929 rfl
theorem tw_930 : (.methodLink "TickPools$Trade" 156 yX4_thingOn : Cond) ∈ lw_gt := tw_t tq_930 rfl
theorem tw_931 : (.methodLink "TickPools$Trade" 159 yX2_putIntoPurse : Cond) ∈ lw_gt := tw_t tq_931 rfl
theorem tw_932 : (.methodLink "TickPools$Runner" 86 yX5_doOut : Cond) ∈ lw_gt := tw_t tq_932 rfl
theorem tw_934 : (.instanceMethod yX5_doOut : Cond) ∈ lw_gt := tw_t tq_934 rfl
theorem tw_935 : ((Jvm.Cond.code ({ cls := "TickPools$Runner", name := "doOut", desc := "(LTickPools$Step;)Z" } : Jvm.MethodName) prog_7_method_10_code (6 : Nat) (Option.some Jvm.ClassFile.FieldType.boolean)) : Cond) ∈ lw_gt := tw_t tq_935 rfl
theorem tw_936 : (.methodLink "TickPools$Runner" 165 yX4_heldOn : Cond) ∈ lw_gt := tw_t tq_936 rfl
theorem tw_937 : (.instanceMethod yX4_heldOn : Cond) ∈ lw_gt := tw_t tq_937 rfl
theorem tw_938 : (.selects "TickPools$Pool" yX4_heldOn yX4_heldOn : Cond) ∈ lw_gt := tw_t tq_938 rfl
theorem tw_939 : ((Jvm.Cond.code ({ cls := "TickPools$Pool", name := "heldOn", desc := "(I)I" } : Jvm.MethodName) prog_6_method_5_code (2 : Nat) (Option.some Jvm.ClassFile.FieldType.int)) : Cond) ∈ lw_gt := tw_t tq_939 rfl
theorem tw_941 : (.constantLong "TickPools$Runner" 168 9999999 : Cond) ∈ lw_gt := tw_t tq_941 rfl
theorem tw_942 : (.methodLink "TickPools$Runner" 170 yX10_drain : Cond) ∈ lw_gt := tw_t tq_942 rfl
theorem tw_943 : (.instanceMethod yX10_drain : Cond) ∈ lw_gt := tw_t tq_943 rfl
theorem tw_944 : (.selects "TickPools$Trade" yX10_drain yX10_drain : Cond) ∈ lw_gt := tw_t tq_944 rfl
theorem tw_945 : ((Jvm.Cond.code ({ cls := "TickPools$Trade", name := "drain", desc := "(LTickPools$Market;IIIJZ)V" } : Jvm.MethodName) prog_12_method_3_code (10 : Nat) (Option.none : Option Jvm.ClassFile.FieldType)) : Cond) ∈ lw_gt := tw_t tq_945 rfl
theorem tw_947 : (.methodLink "TickPools$Trade" 60 yX10_drainStep : Cond) ∈ lw_gt := tw_t tq_947 rfl
theorem tw_949 : (.instanceMethod yX10_drainStep : Cond) ∈ lw_gt := tw_t tq_949 rfl
theorem tw_950 : ((Jvm.Cond.code ({ cls := "TickPools$Trade", name := "drainStep", desc := "(I)V" } : Jvm.MethodName) prog_12_method_6_code (14 : Nat) (Option.none : Option Jvm.ClassFile.FieldType)) : Cond) ∈ lw_gt := tw_t tq_950 rfl
theorem tw_951 : (.methodLink "TickPools$Trade" 137 yX0_rootBehindOut : Cond) ∈ lw_gt := tw_t tq_951 rfl
theorem tw_952 : (.static yX0_rootBehindOut : Cond) ∈ lw_gt := tw_t tq_952 rfl
theorem tw_953 : ((Jvm.Cond.code ({ cls := "TickPools$Curve", name := "rootBehindOut", desc := "(IJJJ)I" } : Jvm.MethodName) prog_2_method_8_code (9 : Nat) (Option.some Jvm.ClassFile.FieldType.int)) : Cond) ∈ lw_gt := tw_t tq_953 rfl
theorem tw_954 : (.methodLink "TickPools$Runner" 105 yX2_addStake : Cond) ∈ lw_gt := tw_t tq_954 rfl
theorem tw_955 : (.instanceMethod yX2_addStake : Cond) ∈ lw_gt := tw_t tq_955 rfl
theorem tw_956 : (.selects "TickPools$Market" yX2_addStake yX2_addStake : Cond) ∈ lw_gt := tw_t tq_956 rfl
theorem tw_957 : ((Jvm.Cond.code ({ cls := "TickPools$Market", name := "addStake", desc := "(IIIIII)I" } : Jvm.MethodName) prog_4_method_18_code (15 : Nat) (Option.some Jvm.ClassFile.FieldType.int)) : Cond) ∈ lw_gt := tw_t tq_957 rfl
theorem tw_958 : (.methodLink "TickPools$Market" 121 yX2_hasPerson : Cond) ∈ lw_gt := tw_t tq_958 rfl
theorem tw_959 : (.methodLink "TickPools$Market" 124 yX2_isRange : Cond) ∈ lw_gt := tw_t tq_959 rfl
theorem tw_960 : (.static yX2_isRange : Cond) ∈ lw_gt := tw_t tq_960 rfl
theorem tw_961 : ((Jvm.Cond.code ({ cls := "TickPools$Market", name := "isRange", desc := "(LTickPools$Pool;II)Z" } : Jvm.MethodName) prog_4_method_19_code (3 : Nat) (Option.some Jvm.ClassFile.FieldType.boolean)) : Cond) ∈ lw_gt := tw_t tq_961 rfl
theorem tw_963 : (.static yX11_isTick : Cond) ∈ lw_gt := tw_t tq_963 rfl
theorem tw_964 : ((Jvm.Cond.code ({ cls := "TickPools", name := "isTick", desc := "(I)Z" } : Jvm.MethodName) prog_1_method_31_code (1 : Nat) (Option.some Jvm.ClassFile.FieldType.boolean)) : Cond) ∈ lw_gt := tw_t tq_964 rfl
theorem tw_965 : (.constant "TickPools$Market" 128 99999 : Cond) ∈ lw_gt := tw_t tq_965 rfl
theorem tw_966 : (.methodLink "TickPools$Market" 129 yX2_findStake : Cond) ∈ lw_gt := tw_t tq_966 rfl
theorem tw_967 : (.instanceMethod yX2_findStake : Cond) ∈ lw_gt := tw_t tq_967 rfl
theorem tw_968 : (.selects "TickPools$Market" yX2_findStake yX2_findStake : Cond) ∈ lw_gt := tw_t tq_968 rfl
theorem tw_969 : ((Jvm.Cond.code ({ cls := "TickPools$Market", name := "findStake", desc := "(IIIII)I" } : Jvm.MethodName) prog_4_method_17_code (7 : Nat) (Option.some Jvm.ClassFile.FieldType.int)) : Cond) ∈ lw_gt := tw_t tq_969 rfl
theorem tw_970 : (.methodLink "TickPools$Market" 117 yX7_isOf : Cond) ∈ lw_gt := tw_t tq_970 rfl
theorem tw_971 : (.instanceMethod yX7_isOf : Cond) ∈ lw_gt := tw_t tq_971 rfl
theorem tw_972 : (.selects "TickPools$Stake" yX7_isOf yX7_isOf : Cond) ∈ lw_gt := tw_t tq_972 rfl
theorem tw_973 : ((Jvm.Cond.code ({ cls := "TickPools$Stake", name := "isOf", desc := "(IIIII)Z" } : Jvm.MethodName) prog_9_method_4_code (6 : Nat) (Option.some Jvm.ClassFile.FieldType.boolean)) : Cond) ∈ lw_gt := tw_t tq_973 rfl
theorem tw_974 : (.methodLink "TickPools$Market" 133 yX7_open : Cond) ∈ lw_gt := tw_t tq_974 rfl
theorem tw_975 : (.constant "TickPools$Market" 137 999999 : Cond) ∈ lw_gt := tw_t tq_975 rfl
theorem tw_976 : (.methodLink "TickPools$Market" 76 yX2_purseOf : Cond) ∈ lw_gt := tw_t tq_976 rfl
theorem tw_977 : (.methodLink "TickPools$Runner" 111 yX5_doDrop : Cond) ∈ lw_gt := tw_t tq_977 rfl
theorem tw_979 : (.instanceMethod yX5_doDrop : Cond) ∈ lw_gt := tw_t tq_979 rfl
theorem tw_980 : ((Jvm.Cond.code ({ cls := "TickPools$Runner", name := "doDrop", desc := "(LTickPools$Step;)Z" } : Jvm.MethodName) prog_7_method_11_code (4 : Nat) (Option.some Jvm.ClassFile.FieldType.boolean)) : Cond) ∈ lw_gt := tw_t tq_980 rfl
theorem tw_981 : (.methodLink "TickPools$Runner" 180 yX2_findStake : Cond) ∈ lw_gt := tw_t tq_981 rfl
theorem tw_982 : (.methodLink "TickPools$Runner" 184 yX2_stakeAt : Cond) ∈ lw_gt := tw_t tq_982 rfl
theorem tw_983 : (.methodLink "TickPools$Runner" 193 yX2_withdraw : Cond) ∈ lw_gt := tw_t tq_983 rfl
theorem tw_984 : (.methodLink "TickPools$Runner" 117 yX2_hasThing : Cond) ∈ lw_gt := tw_t tq_984 rfl
theorem tw_985 : (.instanceMethod yX2_hasThing : Cond) ∈ lw_gt := tw_t tq_985 rfl
theorem tw_986 : (.selects "TickPools$Market" yX2_hasThing yX2_hasThing : Cond) ∈ lw_gt := tw_t tq_986 rfl
theorem tw_987 : ((Jvm.Cond.code ({ cls := "TickPools$Market", name := "hasThing", desc := "(I)Z" } : Jvm.MethodName) prog_4_method_4_code (2 : Nat) (Option.some Jvm.ClassFile.FieldType.boolean)) : Cond) ∈ lw_gt := tw_t tq_987 rfl
theorem tw_988 : (.methodLink "TickPools$Runner" 124 yX5_doLend : Cond) ∈ lw_gt := tw_t tq_988 rfl
theorem tw_990 : (.instanceMethod yX5_doLend : Cond) ∈ lw_gt := tw_t tq_990 rfl
theorem tw_991 : ((Jvm.Cond.code ({ cls := "TickPools$Runner", name := "doLend", desc := "(LTickPools$Step;)Z" } : Jvm.MethodName) prog_7_method_12_code (6 : Nat) (Option.some Jvm.ClassFile.FieldType.boolean)) : Cond) ∈ lw_gt := tw_t tq_991 rfl
theorem tw_992 : (.methodLink "TickPools$Runner" 200 yX2_liquidityAt : Cond) ∈ lw_gt := tw_t tq_992 rfl
theorem tw_993 : (.methodLink "TickPools$Runner" 204 yX5_canOpen : Cond) ∈ lw_gt := tw_t tq_993 rfl
theorem tw_995 : (.instanceMethod yX5_canOpen : Cond) ∈ lw_gt := tw_t tq_995 rfl
theorem tw_996 : ((Jvm.Cond.code ({ cls := "TickPools$Runner", name := "canOpen", desc := "()Z" } : Jvm.MethodName) prog_7_method_14_code (1 : Nat) (Option.some Jvm.ClassFile.FieldType.boolean)) : Cond) ∈ lw_gt := tw_t tq_996 rfl
theorem tw_997 : (.methodLink "TickPools$Runner" 216 yX5_openBracket : Cond) ∈ lw_gt := tw_t tq_997 rfl
theorem tw_999 : (.instanceMethod yX5_openBracket : Cond) ∈ lw_gt := tw_t tq_999 rfl
theorem tw_1000 : ((Jvm.Cond.code ({ cls := "TickPools$Runner", name := "openBracket", desc := "(II)V" } : Jvm.MethodName) prog_7_method_15_code (3 : Nat) (Option.none : Option Jvm.ClassFile.FieldType)) : Cond) ∈ lw_gt := tw_t tq_1000 rfl
theorem tw_1001 : (.methodLink "TickPools$Runner" 127 yX5_doTimes : Cond) ∈ lw_gt := tw_t tq_1001 rfl
theorem tw_1003 : (.instanceMethod yX5_doTimes : Cond) ∈ lw_gt := tw_t tq_1003 rfl
theorem tw_1004 : ((Jvm.Cond.code ({ cls := "TickPools$Runner", name := "doTimes", desc := "(LTickPools$Step;)Z" } : Jvm.MethodName) prog_7_method_13_code (2 : Nat) (Option.some Jvm.ClassFile.FieldType.boolean)) : Cond) ∈ lw_gt := tw_t tq_1004 rfl
theorem tw_1005 : (.methodLink "TickPoolsLaw" 32 yX11_root : Cond) ∈ lw_gt := tw_t tq_1005 rfl
theorem tw_1006 : (.instanceMethod yX11_root : Cond) ∈ lw_gt := tw_t tq_1006 rfl
theorem tw_1007 : (.selects "TickPools" yX11_root yX11_root : Cond) ∈ lw_gt := tw_t tq_1007 rfl
theorem tw_1008 : ((Jvm.Cond.code ({ cls := "TickPools", name := "root", desc := "(I)I" } : Jvm.MethodName) prog_1_method_6_code (2 : Nat) (Option.some Jvm.ClassFile.FieldType.int)) : Cond) ∈ lw_gt := tw_t tq_1008 rfl
theorem tw_1009 : (.methodLink "TickPools" 116 yX11_isTick : Cond) ∈ lw_gt := tw_t tq_1009 rfl
theorem tw_1010 : (.methodLink "TickPools" 119 yX0_rootAt : Cond) ∈ lw_gt := tw_t tq_1010 rfl
theorem tw_1011 : (.methodLink "TickPoolsLaw" 36 yX11_purse : Cond) ∈ lw_gt := tw_t tq_1011 rfl
theorem tw_1012 : (.instanceMethod yX11_purse : Cond) ∈ lw_gt := tw_t tq_1012 rfl
theorem tw_1013 : (.selects "TickPools" yX11_purse yX11_purse : Cond) ∈ lw_gt := tw_t tq_1013 rfl
theorem tw_1014 : ((Jvm.Cond.code ({ cls := "TickPools", name := "purse", desc := "(II)I" } : Jvm.MethodName) prog_1_method_7_code (3 : Nat) (Option.some Jvm.ClassFile.FieldType.int)) : Cond) ∈ lw_gt := tw_t tq_1014 rfl
theorem tw_1015 : (.methodLink "TickPools" 125 yX2_hasThing : Cond) ∈ lw_gt := tw_t tq_1015 rfl
theorem tw_1016 : (.methodLink "TickPools" 128 yX2_purseOf : Cond) ∈ lw_gt := tw_t tq_1016 rfl
theorem tw_1017 : (.methodLink "TickPoolsLaw" 41 yX11_pool : Cond) ∈ lw_gt := tw_t tq_1017 rfl
theorem tw_1018 : (.instanceMethod yX11_pool : Cond) ∈ lw_gt := tw_t tq_1018 rfl
theorem tw_1019 : (.selects "TickPools" yX11_pool yX11_pool : Cond) ∈ lw_gt := tw_t tq_1019 rfl
theorem tw_1020 : ((Jvm.Cond.code ({ cls := "TickPools", name := "pool", desc := "(II)I" } : Jvm.MethodName) prog_1_method_8_code (4 : Nat) (Option.some Jvm.ClassFile.FieldType.int)) : Cond) ∈ lw_gt := tw_t tq_1020 rfl
theorem tw_1021 : (.methodLink "TickPools" 132 yX2_poolAt : Cond) ∈ lw_gt := tw_t tq_1021 rfl
theorem tw_1022 : (.methodLink "TickPools" 159 yX2_liquidityAt : Cond) ∈ lw_gt := tw_t tq_1022 rfl
theorem tw_1023 : (.methodLink "TickPools" 170 yX2_overIn : Cond) ∈ lw_gt := tw_t tq_1023 rfl
theorem tw_1024 : (.instanceMethod yX2_overIn : Cond) ∈ lw_gt := tw_t tq_1024 rfl
theorem tw_1025 : (.selects "TickPools$Market" yX2_overIn yX2_overIn : Cond) ∈ lw_gt := tw_t tq_1025 rfl
theorem tw_1026 : ((Jvm.Cond.code ({ cls := "TickPools$Market", name := "overIn", desc := "(II)J" } : Jvm.MethodName) prog_4_method_16_code (8 : Nat) (Option.some Jvm.ClassFile.FieldType.long)) : Cond) ∈ lw_gt := tw_t tq_1026 rfl
theorem tw_1027 : (.methodLink "TickPools$Market" 113 yX7_owed : Cond) ∈ lw_gt := tw_t tq_1027 rfl
theorem tw_1028 : (.methodLink "TickPoolsLaw" 45 yX11_depth : Cond) ∈ lw_gt := tw_t tq_1028 rfl
theorem tw_1029 : (.instanceMethod yX11_depth : Cond) ∈ lw_gt := tw_t tq_1029 rfl
theorem tw_1030 : (.selects "TickPools" yX11_depth yX11_depth : Cond) ∈ lw_gt := tw_t tq_1030 rfl
theorem tw_1031 : ((Jvm.Cond.code ({ cls := "TickPools", name := "depth", desc := "(II)I" } : Jvm.MethodName) prog_1_method_9_code (3 : Nat) (Option.some Jvm.ClassFile.FieldType.int)) : Cond) ∈ lw_gt := tw_t tq_1031 rfl
theorem tw_1032 : (.methodLink "TickPools" 173 yX11_isZone : Cond) ∈ lw_gt := tw_t tq_1032 rfl
theorem tw_1033 : (.static yX11_isZone : Cond) ∈ lw_gt := tw_t tq_1033 rfl
theorem tw_1034 : ((Jvm.Cond.code ({ cls := "TickPools", name := "isZone", desc := "(I)Z" } : Jvm.MethodName) prog_1_method_32_code (1 : Nat) (Option.some Jvm.ClassFile.FieldType.boolean)) : Cond) ∈ lw_gt := tw_t tq_1034 rfl
theorem tw_1035 : (.methodLink "TickPoolsLaw" 49 yX11_stake : Cond) ∈ lw_gt := tw_t tq_1035 rfl
theorem tw_1036 : (.instanceMethod yX11_stake : Cond) ∈ lw_gt := tw_t tq_1036 rfl
theorem tw_1037 : (.selects "TickPools" yX11_stake yX11_stake : Cond) ∈ lw_gt := tw_t tq_1037 rfl
theorem tw_1038 : ((Jvm.Cond.code ({ cls := "TickPools", name := "stake", desc := "(II)I" } : Jvm.MethodName) prog_1_method_10_code (5 : Nat) (Option.some Jvm.ClassFile.FieldType.int)) : Cond) ∈ lw_gt := tw_t tq_1038 rfl
theorem tw_1039 : (.methodLink "TickPools" 176 yX2_stakeAt : Cond) ∈ lw_gt := tw_t tq_1039 rfl
theorem tw_1040 : (.methodLink "TickPools" 200 yX7_liesIn : Cond) ∈ lw_gt := tw_t tq_1040 rfl
theorem tw_1041 : (.methodLink "TickPools" 204 yX7_owed : Cond) ∈ lw_gt := tw_t tq_1041 rfl
theorem tw_1042 : (.methodLink "TickPools" 208 yX7_reaches : Cond) ∈ lw_gt := tw_t tq_1042 rfl
theorem tw_1043 : (.methodLink "TickPoolsLaw" 53 yX11_add : Cond) ∈ lw_gt := tw_t tq_1043 rfl
theorem tw_1044 : (.instanceMethod yX11_add : Cond) ∈ lw_gt := tw_t tq_1044 rfl
theorem tw_1045 : (.selects "TickPools" yX11_add yX11_add : Cond) ∈ lw_gt := tw_t tq_1045 rfl
theorem tw_1046 : ((Jvm.Cond.code ({ cls := "TickPools", name := "add", desc := "(IIIIII)I" } : Jvm.MethodName) prog_1_method_11_code (7 : Nat) (Option.some Jvm.ClassFile.FieldType.int)) : Cond) ∈ lw_gt := tw_t tq_1046 rfl
theorem tw_1047 : (.methodLink "TickPools" 211 yX2_addStake : Cond) ∈ lw_gt := tw_t tq_1047 rfl
theorem tw_1048 : (.methodLink "TickPoolsLaw" 58 yX11_take : Cond) ∈ lw_gt := tw_t tq_1048 rfl
theorem tw_1049 : (.instanceMethod yX11_take : Cond) ∈ lw_gt := tw_t tq_1049 rfl
theorem tw_1050 : (.selects "TickPools" yX11_take yX11_take : Cond) ∈ lw_gt := tw_t tq_1050 rfl
theorem tw_1051 : ((Jvm.Cond.code ({ cls := "TickPools", name := "take", desc := "(II)I" } : Jvm.MethodName) prog_1_method_12_code (4 : Nat) (Option.some Jvm.ClassFile.FieldType.int)) : Cond) ∈ lw_gt := tw_t tq_1051 rfl
theorem tw_1052 : (.methodLink "TickPools" 215 yX2_withdraw : Cond) ∈ lw_gt := tw_t tq_1052 rfl
theorem tw_1053 : (.methodLink "TickPoolsLaw" 62 yX11_pay : Cond) ∈ lw_gt := tw_t tq_1053 rfl
theorem tw_1054 : (.instanceMethod yX11_pay : Cond) ∈ lw_gt := tw_t tq_1054 rfl
theorem tw_1055 : (.selects "TickPools" yX11_pay yX11_pay : Cond) ∈ lw_gt := tw_t tq_1055 rfl
theorem tw_1056 : ((Jvm.Cond.code ({ cls := "TickPools", name := "pay", desc := "(I)I" } : Jvm.MethodName) prog_1_method_13_code (6 : Nat) (Option.some Jvm.ClassFile.FieldType.int)) : Cond) ∈ lw_gt := tw_t tq_1056 rfl
theorem tw_1057 : (.methodLink "TickPools" 222 yX7_settle : Cond) ∈ lw_gt := tw_t tq_1057 rfl
theorem tw_1058 : (.methodLink "TickPools" 229 yX2_payOut : Cond) ∈ lw_gt := tw_t tq_1058 rfl
theorem tw_1059 : (.methodLink "TickPoolsLaw" 66 yX11_levy : Cond) ∈ lw_gt := tw_t tq_1059 rfl
theorem tw_1060 : (.instanceMethod yX11_levy : Cond) ∈ lw_gt := tw_t tq_1060 rfl
theorem tw_1061 : (.selects "TickPools" yX11_levy yX11_levy : Cond) ∈ lw_gt := tw_t tq_1061 rfl
theorem tw_1062 : ((Jvm.Cond.code ({ cls := "TickPools", name := "levy", desc := "(I)I" } : Jvm.MethodName) prog_1_method_14_code (5 : Nat) (Option.some Jvm.ClassFile.FieldType.int)) : Cond) ∈ lw_gt := tw_t tq_1062 rfl
theorem tw_1063 : (.methodLink "TickPoolsLaw" 70 yX11_in : Cond) ∈ lw_gt := tw_t tq_1063 rfl
theorem tw_1064 : (.instanceMethod yX11_in : Cond) ∈ lw_gt := tw_t tq_1064 rfl
theorem tw_1065 : (.selects "TickPools" yX11_in yX11_in : Cond) ∈ lw_gt := tw_t tq_1065 rfl
theorem tw_1066 : ((Jvm.Cond.code ({ cls := "TickPools", name := "in", desc := "(IIIII)I" } : Jvm.MethodName) prog_1_method_15_code (7 : Nat) (Option.some Jvm.ClassFile.FieldType.int)) : Cond) ∈ lw_gt := tw_t tq_1066 rfl
theorem tw_1067 : (.methodLink "TickPools" 233 yX11_isSide : Cond) ∈ lw_gt := tw_t tq_1067 rfl
theorem tw_1068 : (.methodLink "TickPools" 236 yX4_thingOn : Cond) ∈ lw_gt := tw_t tq_1068 rfl
theorem tw_1069 : (.methodLink "TickPools" 239 yX10_pour : Cond) ∈ lw_gt := tw_t tq_1069 rfl
theorem tw_1070 : (.methodLink "TickPoolsLaw" 74 yX11_out : Cond) ∈ lw_gt := tw_t tq_1070 rfl
theorem tw_1071 : (.instanceMethod yX11_out : Cond) ∈ lw_gt := tw_t tq_1071 rfl
theorem tw_1072 : (.selects "TickPools" yX11_out yX11_out : Cond) ∈ lw_gt := tw_t tq_1072 rfl
theorem tw_1073 : ((Jvm.Cond.code ({ cls := "TickPools", name := "out", desc := "(IIII)I" } : Jvm.MethodName) prog_1_method_16_code (6 : Nat) (Option.some Jvm.ClassFile.FieldType.int)) : Cond) ∈ lw_gt := tw_t tq_1073 rfl
theorem tw_1074 : (.methodLink "TickPools" 247 yX11_isAmount : Cond) ∈ lw_gt := tw_t tq_1074 rfl
theorem tw_1075 : (.static yX11_isAmount : Cond) ∈ lw_gt := tw_t tq_1075 rfl
theorem tw_1076 : ((Jvm.Cond.code ({ cls := "TickPools", name := "isAmount", desc := "(I)Z" } : Jvm.MethodName) prog_1_method_34_code (1 : Nat) (Option.some Jvm.ClassFile.FieldType.boolean)) : Cond) ∈ lw_gt := tw_t tq_1076 rfl
theorem tw_1077 : (.constant "TickPools" 266 9999999 : Cond) ∈ lw_gt := tw_t tq_1077 rfl
theorem tw_1078 : (.methodLink "TickPools" 250 yX10_drain : Cond) ∈ lw_gt := tw_t tq_1078 rfl
theorem tw_1079 : (.methodLink "TickPoolsLaw" 79 yX11_passes : Cond) ∈ lw_gt := tw_t tq_1079 rfl
theorem tw_1080 : (.instanceMethod yX11_passes : Cond) ∈ lw_gt := tw_t tq_1080 rfl
theorem tw_1081 : (.selects "TickPools" yX11_passes yX11_passes : Cond) ∈ lw_gt := tw_t tq_1081 rfl
theorem tw_1082 : ((Jvm.Cond.code ({ cls := "TickPools", name := "passes", desc := "(I)I" } : Jvm.MethodName) prog_1_method_17_code (2 : Nat) (Option.some Jvm.ClassFile.FieldType.int)) : Cond) ∈ lw_gt := tw_t tq_1082 rfl
theorem tw_1083 : (.methodLink "TickPoolsLaw" 83 yX11_mean : Cond) ∈ lw_gt := tw_t tq_1083 rfl
theorem tw_1084 : (.instanceMethod yX11_mean : Cond) ∈ lw_gt := tw_t tq_1084 rfl
theorem tw_1085 : (.selects "TickPools" yX11_mean yX11_mean : Cond) ∈ lw_gt := tw_t tq_1085 rfl
theorem tw_1086 : ((Jvm.Cond.code ({ cls := "TickPools", name := "mean", desc := "(II)I" } : Jvm.MethodName) prog_1_method_18_code (5 : Nat) (Option.some Jvm.ClassFile.FieldType.int)) : Cond) ∈ lw_gt := tw_t tq_1086 rfl
theorem tw_1087 : (.methodLink "TickPools" 267 yX4_firstMark : Cond) ∈ lw_gt := tw_t tq_1087 rfl
theorem tw_1088 : (.instanceMethod yX4_firstMark : Cond) ∈ lw_gt := tw_t tq_1088 rfl
theorem tw_1089 : (.selects "TickPools$Pool" yX4_firstMark yX4_firstMark : Cond) ∈ lw_gt := tw_t tq_1089 rfl
theorem tw_1090 : ((Jvm.Cond.code ({ cls := "TickPools$Pool", name := "firstMark", desc := "()I" } : Jvm.MethodName) prog_6_method_7_code (1 : Nat) (Option.some Jvm.ClassFile.FieldType.int)) : Cond) ∈ lw_gt := tw_t tq_1090 rfl
theorem tw_1091 : (.methodLink "TickPools" 271 yX4_sumAt : Cond) ∈ lw_gt := tw_t tq_1091 rfl
theorem tw_1092 : (.methodLink "TickPoolsLaw" 87 yX11_quoteIn : Cond) ∈ lw_gt := tw_t tq_1092 rfl
theorem tw_1093 : (.instanceMethod yX11_quoteIn : Cond) ∈ lw_gt := tw_t tq_1093 rfl
theorem tw_1094 : (.selects "TickPools" yX11_quoteIn yX11_quoteIn : Cond) ∈ lw_gt := tw_t tq_1094 rfl
theorem tw_1095 : ((Jvm.Cond.code ({ cls := "TickPools", name := "quoteIn", desc := "(IIIII)I" } : Jvm.MethodName) prog_1_method_19_code (6 : Nat) (Option.some Jvm.ClassFile.FieldType.int)) : Cond) ∈ lw_gt := tw_t tq_1095 rfl
theorem tw_1096 : (.methodLink "TickPools" 274 yX11_canAsk : Cond) ∈ lw_gt := tw_t tq_1096 rfl
theorem tw_1098 : (.instanceMethod yX11_canAsk : Cond) ∈ lw_gt := tw_t tq_1098 rfl
theorem tw_1099 : ((Jvm.Cond.code ({ cls := "TickPools", name := "canAsk", desc := "(III)Z" } : Jvm.MethodName) prog_1_method_28_code (4 : Nat) (Option.some Jvm.ClassFile.FieldType.boolean)) : Cond) ∈ lw_gt := tw_t tq_1099 rfl
theorem tw_1100 : (.methodLink "TickPoolsLaw" 91 yX11_quoteOut : Cond) ∈ lw_gt := tw_t tq_1100 rfl
theorem tw_1101 : (.instanceMethod yX11_quoteOut : Cond) ∈ lw_gt := tw_t tq_1101 rfl
theorem tw_1102 : (.selects "TickPools" yX11_quoteOut yX11_quoteOut : Cond) ∈ lw_gt := tw_t tq_1102 rfl
theorem tw_1103 : ((Jvm.Cond.code ({ cls := "TickPools", name := "quoteOut", desc := "(IIII)I" } : Jvm.MethodName) prog_1_method_20_code (5 : Nat) (Option.some Jvm.ClassFile.FieldType.int)) : Cond) ∈ lw_gt := tw_t tq_1103 rfl
theorem tw_1104 : (.methodLink "TickPoolsLaw" 95 yX11_round : Cond) ∈ lw_gt := tw_t tq_1104 rfl
theorem tw_1105 : (.instanceMethod yX11_round : Cond) ∈ lw_gt := tw_t tq_1105 rfl
theorem tw_1106 : (.selects "TickPools" yX11_round yX11_round : Cond) ∈ lw_gt := tw_t tq_1106 rfl
theorem tw_1107 : ((Jvm.Cond.code ({ cls := "TickPools", name := "round", desc := "(III)I" } : Jvm.MethodName) prog_1_method_21_code (4 : Nat) (Option.some Jvm.ClassFile.FieldType.int)) : Cond) ∈ lw_gt := tw_t tq_1107 rfl
theorem tw_1108 : (.methodLink "TickPools" 285 yX11_lastTick : Cond) ∈ lw_gt := tw_t tq_1108 rfl
theorem tw_1109 : (.methodLink "TickPoolsLaw" 100 yX11_least : Cond) ∈ lw_gt := tw_t tq_1109 rfl
theorem tw_1110 : (.instanceMethod yX11_least : Cond) ∈ lw_gt := tw_t tq_1110 rfl
theorem tw_1111 : (.selects "TickPools" yX11_least yX11_least : Cond) ∈ lw_gt := tw_t tq_1111 rfl
theorem tw_1112 : ((Jvm.Cond.code ({ cls := "TickPools", name := "least", desc := "(III)I" } : Jvm.MethodName) prog_1_method_22_code (8 : Nat) (Option.some Jvm.ClassFile.FieldType.int)) : Cond) ∈ lw_gt := tw_t tq_1112 rfl
theorem tw_1113 : (.methodLink "TickPools" 288 yX11_comesTo : Cond) ∈ lw_gt := tw_t tq_1113 rfl
theorem tw_1115 : (.instanceMethod yX11_comesTo : Cond) ∈ lw_gt := tw_t tq_1115 rfl
theorem tw_1116 : ((Jvm.Cond.code ({ cls := "TickPools", name := "comesTo", desc := "(IIII)Z" } : Jvm.MethodName) prog_1_method_30_code (5 : Nat) (Option.some Jvm.ClassFile.FieldType.boolean)) : Cond) ∈ lw_gt := tw_t tq_1116 rfl
theorem tw_1117 : (.methodLink "TickPoolsLaw" 104 yX11_route : Cond) ∈ lw_gt := tw_t tq_1117 rfl
theorem tw_1118 : (.instanceMethod yX11_route : Cond) ∈ lw_gt := tw_t tq_1118 rfl
theorem tw_1119 : (.selects "TickPools" yX11_route yX11_route : Cond) ∈ lw_gt := tw_t tq_1119 rfl
theorem tw_1120 : ((Jvm.Cond.code ({ cls := "TickPools", name := "route", desc := "(IIII)I" } : Jvm.MethodName) prog_1_method_23_code (5 : Nat) (Option.some Jvm.ClassFile.FieldType.int)) : Cond) ∈ lw_gt := tw_t tq_1120 rfl
theorem tw_1121 : (.methodLink "TickPools" 292 yX11_canWander : Cond) ∈ lw_gt := tw_t tq_1121 rfl
theorem tw_1123 : (.instanceMethod yX11_canWander : Cond) ∈ lw_gt := tw_t tq_1123 rfl
theorem tw_1124 : ((Jvm.Cond.code ({ cls := "TickPools", name := "canWander", desc := "(III)Z" } : Jvm.MethodName) prog_1_method_29_code (4 : Nat) (Option.some Jvm.ClassFile.FieldType.boolean)) : Cond) ∈ lw_gt := tw_t tq_1124 rfl
theorem tw_1125 : (.methodLink "TickPools" 295 yX1_forget : Cond) ∈ lw_gt := tw_t tq_1125 rfl
theorem tw_1126 : (.instanceMethod yX1_forget : Cond) ∈ lw_gt := tw_t tq_1126 rfl
theorem tw_1127 : (.selects "TickPools$Finder" yX1_forget yX1_forget : Cond) ∈ lw_gt := tw_t tq_1127 rfl
theorem tw_1128 : ((Jvm.Cond.code ({ cls := "TickPools$Finder", name := "forget", desc := "(I)V" } : Jvm.MethodName) prog_3_method_4_code (2 : Nat) (Option.none : Option Jvm.ClassFile.FieldType)) : Cond) ∈ lw_gt := tw_t tq_1128 rfl
theorem tw_1129 : (.methodLink "TickPools" 298 yX1_search : Cond) ∈ lw_gt := tw_t tq_1129 rfl
theorem tw_1130 : (.instanceMethod yX1_search : Cond) ∈ lw_gt := tw_t tq_1130 rfl
theorem tw_1131 : (.selects "TickPools$Finder" yX1_search yX1_search : Cond) ∈ lw_gt := tw_t tq_1131 rfl
theorem tw_1132 : ((Jvm.Cond.code ({ cls := "TickPools$Finder", name := "search", desc := "(LTickPools$Market;III)V" } : Jvm.MethodName) prog_3_method_5_code (13 : Nat) (Option.none : Option Jvm.ClassFile.FieldType)) : Cond) ∈ lw_gt := tw_t tq_1132 rfl
theorem tw_1133 : (.constant "TickPools$Finder" 43 100000 : Cond) ∈ lw_gt := tw_t tq_1133 rfl
theorem tw_1134 : (.methodLink "TickPools$Finder" 49 yX1_otherThing : Cond) ∈ lw_gt := tw_t tq_1134 rfl
theorem tw_1136 : (.instanceMethod yX1_otherThing : Cond) ∈ lw_gt := tw_t tq_1136 rfl
theorem tw_1137 : ((Jvm.Cond.code ({ cls := "TickPools$Finder", name := "otherThing", desc := "(LTickPools$Market;II)I" } : Jvm.MethodName) prog_3_method_6_code (6 : Nat) (Option.some Jvm.ClassFile.FieldType.int)) : Cond) ∈ lw_gt := tw_t tq_1137 rfl
theorem tw_1138 : (.methodLink "TickPools$Finder" 65 yX2_poolAt : Cond) ∈ lw_gt := tw_t tq_1138 rfl
theorem tw_1139 : (.methodLink "TickPools$Finder" 69 yX4_sideOf : Cond) ∈ lw_gt := tw_t tq_1139 rfl
theorem tw_1140 : (.instanceMethod yX4_sideOf : Cond) ∈ lw_gt := tw_t tq_1140 rfl
theorem tw_1141 : (.selects "TickPools$Pool" yX4_sideOf yX4_sideOf : Cond) ∈ lw_gt := tw_t tq_1141 rfl
theorem tw_1142 : ((Jvm.Cond.code ({ cls := "TickPools$Pool", name := "sideOf", desc := "(I)I" } : Jvm.MethodName) prog_6_method_6_code (2 : Nat) (Option.some Jvm.ClassFile.FieldType.int)) : Cond) ∈ lw_gt := tw_t tq_1142 rfl
theorem tw_1143 : (.methodLink "TickPools$Finder" 75 yX4_thingOn : Cond) ∈ lw_gt := tw_t tq_1143 rfl
theorem tw_1144 : (.methodLink "TickPools$Finder" 53 yX1_wasAt : Cond) ∈ lw_gt := tw_t tq_1144 rfl
theorem tw_1146 : (.instanceMethod yX1_wasAt : Cond) ∈ lw_gt := tw_t tq_1146 rfl
theorem tw_1147 : ((Jvm.Cond.code ({ cls := "TickPools$Finder", name := "wasAt", desc := "(II)Z" } : Jvm.MethodName) prog_3_method_7_code (4 : Nat) (Option.some Jvm.ClassFile.FieldType.boolean)) : Cond) ∈ lw_gt := tw_t tq_1147 rfl
theorem tw_1148 : (.methodLink "TickPools$Finder" 57 yX1_trial : Cond) ∈ lw_gt := tw_t tq_1148 rfl
theorem tw_1150 : (.instanceMethod yX1_trial : Cond) ∈ lw_gt := tw_t tq_1150 rfl
theorem tw_1151 : ((Jvm.Cond.code ({ cls := "TickPools$Finder", name := "trial", desc := "(LTickPools$Market;II)J" } : Jvm.MethodName) prog_3_method_8_code (6 : Nat) (Option.some Jvm.ClassFile.FieldType.long)) : Cond) ∈ lw_gt := tw_t tq_1151 rfl
theorem tw_1153 : (.methodLink "TickPools$Finder" 81 yX10_pour : Cond) ∈ lw_gt := tw_t tq_1153 rfl
theorem tw_1154 : (.methodLink "TickPools$Finder" 61 yX1_consider : Cond) ∈ lw_gt := tw_t tq_1154 rfl
theorem tw_1156 : (.instanceMethod yX1_consider : Cond) ∈ lw_gt := tw_t tq_1156 rfl
theorem tw_1157 : ((Jvm.Cond.code ({ cls := "TickPools$Finder", name := "consider", desc := "(IJI)V" } : Jvm.MethodName) prog_3_method_9_code (8 : Nat) (Option.none : Option Jvm.ClassFile.FieldType)) : Cond) ∈ lw_gt := tw_t tq_1157 rfl
theorem tw_1158 : (.methodLink "TickPools$Finder" 90 ⟨"java/lang/System", "arraycopy", "(Ljava/lang/Object;ILjava/lang/Object;II)V"⟩ : Cond) ∈ lw_gt := tw_t tq_1158 rfl
theorem tw_1159 : (.methodLink "TickPools" 308 yX1_bestPool : Cond) ∈ lw_gt := tw_t tq_1159 rfl
theorem tw_1160 : (.instanceMethod yX1_bestPool : Cond) ∈ lw_gt := tw_t tq_1160 rfl
theorem tw_1161 : (.selects "TickPools$Finder" yX1_bestPool yX1_bestPool : Cond) ∈ lw_gt := tw_t tq_1161 rfl
theorem tw_1162 : ((Jvm.Cond.code ({ cls := "TickPools$Finder", name := "bestPool", desc := "(I)I" } : Jvm.MethodName) prog_3_method_2_code (2 : Nat) (Option.some Jvm.ClassFile.FieldType.int)) : Cond) ∈ lw_gt := tw_t tq_1162 rfl
theorem tw_1163 : (.methodLink "TickPoolsLaw" 108 yX11_parts : Cond) ∈ lw_gt := tw_t tq_1163 rfl
theorem tw_1164 : (.instanceMethod yX11_parts : Cond) ∈ lw_gt := tw_t tq_1164 rfl
theorem tw_1165 : (.selects "TickPools" yX11_parts yX11_parts : Cond) ∈ lw_gt := tw_t tq_1165 rfl
theorem tw_1166 : ((Jvm.Cond.code ({ cls := "TickPools", name := "parts", desc := "(IIII)I" } : Jvm.MethodName) prog_1_method_24_code (11 : Nat) (Option.some Jvm.ClassFile.FieldType.int)) : Cond) ∈ lw_gt := tw_t tq_1166 rfl
theorem tw_1167 : (.methodLink "TickPools" 311 yX1_bestCode : Cond) ∈ lw_gt := tw_t tq_1167 rfl
theorem tw_1168 : (.instanceMethod yX1_bestCode : Cond) ∈ lw_gt := tw_t tq_1168 rfl
theorem tw_1169 : (.selects "TickPools$Finder" yX1_bestCode yX1_bestCode : Cond) ∈ lw_gt := tw_t tq_1169 rfl
theorem tw_1170 : ((Jvm.Cond.code ({ cls := "TickPools$Finder", name := "bestCode", desc := "()I" } : Jvm.MethodName) prog_3_method_3_code (3 : Nat) (Option.some Jvm.ClassFile.FieldType.int)) : Cond) ∈ lw_gt := tw_t tq_1170 rfl
theorem tw_1171 : (.methodLink "TickPools" 314 yX1_follow : Cond) ∈ lw_gt := tw_t tq_1171 rfl
theorem tw_1172 : (.instanceMethod yX1_follow : Cond) ∈ lw_gt := tw_t tq_1172 rfl
theorem tw_1173 : (.selects "TickPools$Finder" yX1_follow yX1_follow : Cond) ∈ lw_gt := tw_t tq_1173 rfl
theorem tw_1174 : ((Jvm.Cond.code ({ cls := "TickPools$Finder", name := "follow", desc := "(LTickPools$Market;II)V" } : Jvm.MethodName) prog_3_method_10_code (10 : Nat) (Option.none : Option Jvm.ClassFile.FieldType)) : Cond) ∈ lw_gt := tw_t tq_1174 rfl
theorem tw_1175 : (.methodLink "TickPoolsLaw" 112 yX11_ring : Cond) ∈ lw_gt := tw_t tq_1175 rfl
theorem tw_1176 : (.instanceMethod yX11_ring : Cond) ∈ lw_gt := tw_t tq_1176 rfl
theorem tw_1177 : (.selects "TickPools" yX11_ring yX11_ring : Cond) ∈ lw_gt := tw_t tq_1177 rfl
theorem tw_1178 : ((Jvm.Cond.code ({ cls := "TickPools", name := "ring", desc := "(II)I" } : Jvm.MethodName) prog_1_method_25_code (4 : Nat) (Option.some Jvm.ClassFile.FieldType.int)) : Cond) ∈ lw_gt := tw_t tq_1178 rfl
theorem tw_1179 : (.methodLink "TickPoolsLaw" 116 yX11_total : Cond) ∈ lw_gt := tw_t tq_1179 rfl
theorem tw_1180 : (.instanceMethod yX11_total : Cond) ∈ lw_gt := tw_t tq_1180 rfl
theorem tw_1181 : (.selects "TickPools" yX11_total yX11_total : Cond) ∈ lw_gt := tw_t tq_1181 rfl
theorem tw_1182 : ((Jvm.Cond.code ({ cls := "TickPools", name := "total", desc := "(I)I" } : Jvm.MethodName) prog_1_method_26_code (2 : Nat) (Option.some Jvm.ClassFile.FieldType.int)) : Cond) ∈ lw_gt := tw_t tq_1182 rfl
theorem tw_1183 : (.methodLink "TickPools" 321 yX2_allOf : Cond) ∈ lw_gt := tw_t tq_1183 rfl
theorem tw_1184 : (.instanceMethod yX2_allOf : Cond) ∈ lw_gt := tw_t tq_1184 rfl
theorem tw_1185 : (.selects "TickPools$Market" yX2_allOf yX2_allOf : Cond) ∈ lw_gt := tw_t tq_1185 rfl
theorem tw_1186 : ((Jvm.Cond.code ({ cls := "TickPools$Market", name := "allOf", desc := "(I)I" } : Jvm.MethodName) prog_4_method_12_code (5 : Nat) (Option.some Jvm.ClassFile.FieldType.int)) : Cond) ∈ lw_gt := tw_t tq_1186 rfl
theorem tw_1187 : (.methodLink "TickPools$Market" 80 yX4_sideOf : Cond) ∈ lw_gt := tw_t tq_1187 rfl
theorem tw_1188 : (.methodLink "TickPools$Market" 83 yX4_heldOn : Cond) ∈ lw_gt := tw_t tq_1188 rfl
theorem tw_1189 : (.methodLink "TickPoolsLaw" 120 yX11_count : Cond) ∈ lw_gt := tw_t tq_1189 rfl
theorem tw_1190 : (.instanceMethod yX11_count : Cond) ∈ lw_gt := tw_t tq_1190 rfl
theorem tw_1191 : (.selects "TickPools" yX11_count yX11_count : Cond) ∈ lw_gt := tw_t tq_1191 rfl
theorem tw_1192 : ((Jvm.Cond.code ({ cls := "TickPools", name := "count", desc := "(I)I" } : Jvm.MethodName) prog_1_method_27_code (2 : Nat) (Option.some Jvm.ClassFile.FieldType.int)) : Cond) ∈ lw_gt := tw_t tq_1192 rfl
theorem tw_1195 : (.methodLink "TickPoolsLaw" 12 yX12_init : Cond) ∈ lw_gt := tw_t tq_1195 rfl
theorem tw_1196 : (.instanceMethod yX12_init : Cond) ∈ lw_gt := tw_t tq_1196 rfl
theorem tw_1197 : ((Jvm.Cond.code ({ cls := "TickPoolsModel", name := "<init>", desc := "()V" } : Jvm.MethodName) prog_14_method_1_code (4 : Nat) (Option.none : Option Jvm.ClassFile.FieldType)) : Cond) ∈ lw_gt := tw_t tq_1197 rfl
theorem tw_1198 : (.methodLink "TickPoolsModel" 1 ⟨"java/lang/Object", "<init>", "()V"⟩ : Cond) ∈ lw_gt := tw_t tq_1198 rfl
theorem tw_1199 : (.methodLink "TickPoolsModel" 27 yX12_word : Cond) ∈ lw_gt := tw_t tq_1199 rfl
theorem tw_1200 : (.static yX12_word : Cond) ∈ lw_gt := tw_t tq_1200 rfl
theorem tw_1201 : ((Jvm.Cond.code ({ cls := "TickPoolsModel", name := "word", desc := "(IIIIII)J" } : Jvm.MethodName) prog_14_method_31_code (10 : Nat) (Option.some Jvm.ClassFile.FieldType.long)) : Cond) ∈ lw_gt := tw_t tq_1201 rfl
theorem tw_1202 : (.constantLong "TickPoolsModel" 158 27 : Cond) ∈ lw_gt := tw_t tq_1202 rfl
theorem tw_1203 : (.constantLong "TickPoolsModel" 160 96 : Cond) ∈ lw_gt := tw_t tq_1203 rfl
theorem tw_1204 : (.constantLong "TickPoolsModel" 104 10000000000 : Cond) ∈ lw_gt := tw_t tq_1204 rfl
theorem tw_1205 : (.methodLink "TickPoolsModel" 106 yX12_rootOfNumber : Cond) ∈ lw_gt := tw_t tq_1205 rfl
theorem tw_1206 : (.static yX12_rootOfNumber : Cond) ∈ lw_gt := tw_t tq_1206 rfl
theorem tw_1207 : ((Jvm.Cond.code ({ cls := "TickPoolsModel", name := "rootOfNumber", desc := "(J)J" } : Jvm.MethodName) prog_14_method_4_code (6 : Nat) (Option.some Jvm.ClassFile.FieldType.long)) : Cond) ∈ lw_gt := tw_t tq_1207 rfl
theorem tw_1208 : (.constantLong "TickPoolsModel" 114 16777216 : Cond) ∈ lw_gt := tw_t tq_1208 rfl
theorem tw_1209 : (.constantLong "TickPoolsModel" 110 11 : Cond) ∈ lw_gt := tw_t tq_1209 rfl
theorem tw_1210 : (.constantLong "TickPoolsModel" 112 10 : Cond) ∈ lw_gt := tw_t tq_1210 rfl
theorem tw_1211 : (.fieldLink "TickPoolsModel" 7 "TickPoolsModel" "rootOf" "[J" : Cond) ∈ lw_gt := tw_t tq_1211 rfl
theorem tw_1212 : (.fieldLink "TickPoolsModel" 127 "TickPoolsModel" "things" "I" : Cond) ∈ lw_gt := tw_t tq_1212 rfl
theorem tw_1213 : (.fieldLink "TickPoolsModel" 124 "TickPoolsModel" "people" "I" : Cond) ∈ lw_gt := tw_t tq_1213 rfl
theorem tw_1214 : (.fieldLink "TickPoolsModel" 120 "TickPoolsModel" "pools" "I" : Cond) ∈ lw_gt := tw_t tq_1214 rfl
theorem tw_1215 : (.fieldLink "TickPoolsModel" 13 "TickPoolsModel" "told" "[I" : Cond) ∈ lw_gt := tw_t tq_1215 rfl
theorem tw_1216 : (.fieldLink "TickPoolsModel" 17 "TickPoolsModel" "now" "[J" : Cond) ∈ lw_gt := tw_t tq_1216 rfl
theorem tw_1217 : (.fieldLink "TickPoolsModel" 20 "TickPoolsModel" "was" "[J" : Cond) ∈ lw_gt := tw_t tq_1217 rfl
theorem tw_1218 : (.fieldLink "TickPoolsModel" 23 "TickPoolsModel" "tape" "[B" : Cond) ∈ lw_gt := tw_t tq_1218 rfl
theorem tw_1219 : (.fieldLink "TickPoolsModel" 134 "TickPoolsModel" "taped" "I" : Cond) ∈ lw_gt := tw_t tq_1219 rfl
theorem tw_1220 : (.fieldLink "TickPoolsModel" 144 "TickPoolsModel" "at" "I" : Cond) ∈ lw_gt := tw_t tq_1220 rfl
theorem tw_1221 : (.fieldLink "TickPoolsModel" 141 "TickPoolsModel" "wrong" "I" : Cond) ∈ lw_gt := tw_t tq_1221 rfl
theorem tw_1222 : (.fieldLink "TickPoolsModel" 169 "TickPoolsModel" "number" "I" : Cond) ∈ lw_gt := tw_t tq_1222 rfl
theorem tw_1223 : (.fieldLink "TickPoolsModel" 31 "TickPoolsModel" "marketWord" "J" : Cond) ∈ lw_gt := tw_t tq_1223 rfl
theorem tw_1224 : (.fieldLink "TickPoolsModel" 35 "TickPoolsModel" "poolWord" "J" : Cond) ∈ lw_gt := tw_t tq_1224 rfl
theorem tw_1225 : (.fieldLink "TickPoolsModel" 38 "TickPoolsModel" "purseWord" "J" : Cond) ∈ lw_gt := tw_t tq_1225 rfl
theorem tw_1226 : (.fieldLink "TickPoolsModel" 41 "TickPoolsModel" "inWord" "J" : Cond) ∈ lw_gt := tw_t tq_1226 rfl
theorem tw_1227 : (.fieldLink "TickPoolsModel" 44 "TickPoolsModel" "outWord" "J" : Cond) ∈ lw_gt := tw_t tq_1227 rfl
theorem tw_1228 : (.fieldLink "TickPoolsModel" 47 "TickPoolsModel" "addWord" "J" : Cond) ∈ lw_gt := tw_t tq_1228 rfl
theorem tw_1229 : (.fieldLink "TickPoolsModel" 50 "TickPoolsModel" "dropWord" "J" : Cond) ∈ lw_gt := tw_t tq_1229 rfl
theorem tw_1230 : (.fieldLink "TickPoolsModel" 53 "TickPoolsModel" "leastWord" "J" : Cond) ∈ lw_gt := tw_t tq_1230 rfl
theorem tw_1231 : (.fieldLink "TickPoolsModel" 56 "TickPoolsModel" "lendWord" "J" : Cond) ∈ lw_gt := tw_t tq_1231 rfl
theorem tw_1232 : (.fieldLink "TickPoolsModel" 59 "TickPoolsModel" "timesWord" "J" : Cond) ∈ lw_gt := tw_t tq_1232 rfl
theorem tw_1233 : (.fieldLink "TickPoolsModel" 62 "TickPoolsModel" "allWord" "J" : Cond) ∈ lw_gt := tw_t tq_1233 rfl
theorem tw_1234 : (.fieldLink "TickPoolsModel" 65 "TickPoolsModel" "gotWord" "J" : Cond) ∈ lw_gt := tw_t tq_1234 rfl
theorem tw_1235 : (.fieldLink "TickPoolsModel" 172 "TickPoolsModel" "readThings" "I" : Cond) ∈ lw_gt := tw_t tq_1235 rfl
theorem tw_1236 : (.fieldLink "TickPoolsModel" 181 "TickPoolsModel" "readPeople" "I" : Cond) ∈ lw_gt := tw_t tq_1236 rfl
theorem tw_1237 : (.fieldLink "TickPoolsModel" 184 "TickPoolsModel" "readPools" "I" : Cond) ∈ lw_gt := tw_t tq_1237 rfl
theorem tw_1238 : (.fieldLink "TickPoolsModel" 68 "TickPoolsModel" "readPool" "[I" : Cond) ∈ lw_gt := tw_t tq_1238 rfl
theorem tw_1239 : (.fieldLink "TickPoolsModel" 71 "TickPoolsModel" "readPurse" "[I" : Cond) ∈ lw_gt := tw_t tq_1239 rfl
theorem tw_1240 : (.fieldLink "TickPoolsModel" 326 "TickPoolsModel" "left" "J" : Cond) ∈ lw_gt := tw_t tq_1240 rfl
theorem tw_1241 : (.fieldLink "TickPoolsModel" 349 "TickPoolsModel" "came" "J" : Cond) ∈ lw_gt := tw_t tq_1241 rfl
theorem tw_1242 : (.fieldLink "TickPoolsModel" 352 "TickPoolsModel" "gone" "J" : Cond) ∈ lw_gt := tw_t tq_1242 rfl
theorem tw_1243 : (.fieldLink "TickPoolsModel" 355 "TickPoolsModel" "fees" "J" : Cond) ∈ lw_gt := tw_t tq_1243 rfl
theorem tw_1244 : (.fieldLink "TickPoolsModel" 362 "TickPoolsModel" "crossed" "I" : Cond) ∈ lw_gt := tw_t tq_1244 rfl
theorem tw_1245 : (.fieldLink "TickPoolsModel" 417 "TickPoolsModel" "stepMany" "I" : Cond) ∈ lw_gt := tw_t tq_1245 rfl
theorem tw_1246 : (.fieldLink "TickPoolsModel" 74 "TickPoolsModel" "kind" "[I" : Cond) ∈ lw_gt := tw_t tq_1246 rfl
theorem tw_1247 : (.fieldLink "TickPoolsModel" 77 "TickPoolsModel" "placeOf" "[I" : Cond) ∈ lw_gt := tw_t tq_1247 rfl
theorem tw_1248 : (.fieldLink "TickPoolsModel" 80 "TickPoolsModel" "numbers" "[I" : Cond) ∈ lw_gt := tw_t tq_1248 rfl
theorem tw_1249 : (.fieldLink "TickPoolsModel" 83 "TickPoolsModel" "muchBy" "[I" : Cond) ∈ lw_gt := tw_t tq_1249 rfl
theorem tw_1250 : (.fieldLink "TickPoolsModel" 86 "TickPoolsModel" "behind" "[I" : Cond) ∈ lw_gt := tw_t tq_1250 rfl
theorem tw_1251 : (.fieldLink "TickPoolsModel" 89 "TickPoolsModel" "stepWords" "[J" : Cond) ∈ lw_gt := tw_t tq_1251 rfl
theorem tw_1252 : (.fieldLink "TickPoolsModel" 92 "TickPoolsModel" "open" "[I" : Cond) ∈ lw_gt := tw_t tq_1252 rfl
theorem tw_1253 : (.fieldLink "TickPoolsModel" 410 "TickPoolsModel" "opened" "I" : Cond) ∈ lw_gt := tw_t tq_1253 rfl
theorem tw_1254 : (.fieldLink "TickPoolsModel" 443 "TickPoolsModel" "who" "I" : Cond) ∈ lw_gt := tw_t tq_1254 rfl
theorem tw_1255 : (.fieldLink "TickPoolsModel" 482 "TickPoolsModel" "doneMany" "I" : Cond) ∈ lw_gt := tw_t tq_1255 rfl
theorem tw_1256 : (.fieldLink "TickPoolsModel" 440 "TickPoolsModel" "got" "J" : Cond) ∈ lw_gt := tw_t tq_1256 rfl
theorem tw_1257 : (.fieldLink "TickPoolsModel" 437 "TickPoolsModel" "locked" "I" : Cond) ∈ lw_gt := tw_t tq_1257 rfl
theorem tw_1258 : (.fieldLink "TickPoolsModel" 95 "TickPoolsModel" "within" "[I" : Cond) ∈ lw_gt := tw_t tq_1258 rfl
theorem tw_1259 : (.fieldLink "TickPoolsModel" 98 "TickPoolsModel" "turns" "[I" : Cond) ∈ lw_gt := tw_t tq_1259 rfl
theorem tw_1260 : (.fieldLink "TickPoolsModel" 101 "TickPoolsModel" "lent" "[J" : Cond) ∈ lw_gt := tw_t tq_1260 rfl
theorem tw_1261 : (.fieldLink "TickPoolsModel" 463 "TickPoolsModel" "deep" "I" : Cond) ∈ lw_gt := tw_t tq_1261 rfl
theorem tw_1262 : (.fieldLink "TickPoolsModel" 539 "TickPoolsModel" "best" "J" : Cond) ∈ lw_gt := tw_t tq_1262 rfl
theorem tw_1263 : (.fieldLink "TickPoolsModel" 542 "TickPoolsModel" "bestRow" "I" : Cond) ∈ lw_gt := tw_t tq_1263 rfl
theorem tw_1264 : (.fieldLink "TickPoolsModel" 555 "TickPoolsModel" "partsAll" "J" : Cond) ∈ lw_gt := tw_t tq_1264 rfl
theorem tw_1265 : (.fieldLink "TickPoolsModel" 558 "TickPoolsModel" "others" "I" : Cond) ∈ lw_gt := tw_t tq_1265 rfl
theorem tw_1266 : (.laysFinal "TickPoolsModel" "TickPoolsModel" "rootOf" "[J" : Cond) ∈ lw_gt := tw_t tq_1266 rfl
theorem tw_1268 : (.lays "TickPoolsModel" "TickPoolsModel" "things" "I" : Cond) ∈ lw_gt := tw_t tq_1268 rfl
theorem tw_1270 : (.lays "TickPoolsModel" "TickPoolsModel" "people" "I" : Cond) ∈ lw_gt := tw_t tq_1270 rfl
theorem tw_1272 : (.lays "TickPoolsModel" "TickPoolsModel" "pools" "I" : Cond) ∈ lw_gt := tw_t tq_1272 rfl
theorem tw_1274 : (.laysFinal "TickPoolsModel" "TickPoolsModel" "told" "[I" : Cond) ∈ lw_gt := tw_t tq_1274 rfl
theorem tw_1276 : (.laysFinal "TickPoolsModel" "TickPoolsModel" "now" "[J" : Cond) ∈ lw_gt := tw_t tq_1276 rfl
theorem tw_1278 : (.laysFinal "TickPoolsModel" "TickPoolsModel" "was" "[J" : Cond) ∈ lw_gt := tw_t tq_1278 rfl
theorem tw_1280 : (.laysFinal "TickPoolsModel" "TickPoolsModel" "tape" "[B" : Cond) ∈ lw_gt := tw_t tq_1280 rfl
theorem tw_1282 : (.lays "TickPoolsModel" "TickPoolsModel" "taped" "I" : Cond) ∈ lw_gt := tw_t tq_1282 rfl
theorem tw_1284 : (.lays "TickPoolsModel" "TickPoolsModel" "at" "I" : Cond) ∈ lw_gt := tw_t tq_1284 rfl
theorem tw_1286 : (.lays "TickPoolsModel" "TickPoolsModel" "wrong" "I" : Cond) ∈ lw_gt := tw_t tq_1286 rfl
theorem tw_1288 : (.lays "TickPoolsModel" "TickPoolsModel" "number" "I" : Cond) ∈ lw_gt := tw_t tq_1288 rfl
theorem tw_1290 : (.laysFinal "TickPoolsModel" "TickPoolsModel" "marketWord" "J" : Cond) ∈ lw_gt := tw_t tq_1290 rfl
theorem tw_1292 : (.laysFinal "TickPoolsModel" "TickPoolsModel" "poolWord" "J" : Cond) ∈ lw_gt := tw_t tq_1292 rfl
theorem tw_1294 : (.laysFinal "TickPoolsModel" "TickPoolsModel" "purseWord" "J" : Cond) ∈ lw_gt := tw_t tq_1294 rfl
theorem tw_1296 : (.laysFinal "TickPoolsModel" "TickPoolsModel" "inWord" "J" : Cond) ∈ lw_gt := tw_t tq_1296 rfl
theorem tw_1298 : (.laysFinal "TickPoolsModel" "TickPoolsModel" "outWord" "J" : Cond) ∈ lw_gt := tw_t tq_1298 rfl
theorem tw_1300 : (.laysFinal "TickPoolsModel" "TickPoolsModel" "addWord" "J" : Cond) ∈ lw_gt := tw_t tq_1300 rfl
theorem tw_1302 : (.laysFinal "TickPoolsModel" "TickPoolsModel" "dropWord" "J" : Cond) ∈ lw_gt := tw_t tq_1302 rfl
theorem tw_1304 : (.laysFinal "TickPoolsModel" "TickPoolsModel" "leastWord" "J" : Cond) ∈ lw_gt := tw_t tq_1304 rfl
theorem tw_1306 : (.laysFinal "TickPoolsModel" "TickPoolsModel" "lendWord" "J" : Cond) ∈ lw_gt := tw_t tq_1306 rfl
theorem tw_1308 : (.laysFinal "TickPoolsModel" "TickPoolsModel" "timesWord" "J" : Cond) ∈ lw_gt := tw_t tq_1308 rfl
theorem tw_1310 : (.laysFinal "TickPoolsModel" "TickPoolsModel" "allWord" "J" : Cond) ∈ lw_gt := tw_t tq_1310 rfl
theorem tw_1312 : (.laysFinal "TickPoolsModel" "TickPoolsModel" "gotWord" "J" : Cond) ∈ lw_gt := tw_t tq_1312 rfl
theorem tw_1314 : (.lays "TickPoolsModel" "TickPoolsModel" "readThings" "I" : Cond) ∈ lw_gt := tw_t tq_1314 rfl
theorem tw_1316 : (.lays "TickPoolsModel" "TickPoolsModel" "readPeople" "I" : Cond) ∈ lw_gt := tw_t tq_1316 rfl
theorem tw_1318 : (.lays "TickPoolsModel" "TickPoolsModel" "readPools" "I" : Cond) ∈ lw_gt := tw_t tq_1318 rfl
theorem tw_1320 : (.laysFinal "TickPoolsModel" "TickPoolsModel" "readPool" "[I" : Cond) ∈ lw_gt := tw_t tq_1320 rfl
theorem tw_1322 : (.laysFinal "TickPoolsModel" "TickPoolsModel" "readPurse" "[I" : Cond) ∈ lw_gt := tw_t tq_1322 rfl
theorem tw_1324 : (.lays "TickPoolsModel" "TickPoolsModel" "left" "J" : Cond) ∈ lw_gt := tw_t tq_1324 rfl
theorem tw_1326 : (.lays "TickPoolsModel" "TickPoolsModel" "came" "J" : Cond) ∈ lw_gt := tw_t tq_1326 rfl
theorem tw_1328 : (.lays "TickPoolsModel" "TickPoolsModel" "gone" "J" : Cond) ∈ lw_gt := tw_t tq_1328 rfl
theorem tw_1330 : (.lays "TickPoolsModel" "TickPoolsModel" "fees" "J" : Cond) ∈ lw_gt := tw_t tq_1330 rfl
theorem tw_1332 : (.lays "TickPoolsModel" "TickPoolsModel" "crossed" "I" : Cond) ∈ lw_gt := tw_t tq_1332 rfl
theorem tw_1334 : (.lays "TickPoolsModel" "TickPoolsModel" "stepMany" "I" : Cond) ∈ lw_gt := tw_t tq_1334 rfl
theorem tw_1336 : (.laysFinal "TickPoolsModel" "TickPoolsModel" "kind" "[I" : Cond) ∈ lw_gt := tw_t tq_1336 rfl
theorem tw_1338 : (.laysFinal "TickPoolsModel" "TickPoolsModel" "placeOf" "[I" : Cond) ∈ lw_gt := tw_t tq_1338 rfl
theorem tw_1340 : (.laysFinal "TickPoolsModel" "TickPoolsModel" "numbers" "[I" : Cond) ∈ lw_gt := tw_t tq_1340 rfl
theorem tw_1342 : (.laysFinal "TickPoolsModel" "TickPoolsModel" "muchBy" "[I" : Cond) ∈ lw_gt := tw_t tq_1342 rfl
theorem tw_1344 : (.laysFinal "TickPoolsModel" "TickPoolsModel" "behind" "[I" : Cond) ∈ lw_gt := tw_t tq_1344 rfl
theorem tw_1346 : (.laysFinal "TickPoolsModel" "TickPoolsModel" "stepWords" "[J" : Cond) ∈ lw_gt := tw_t tq_1346 rfl
theorem tw_1348 : (.laysFinal "TickPoolsModel" "TickPoolsModel" "open" "[I" : Cond) ∈ lw_gt := tw_t tq_1348 rfl
theorem tw_1350 : (.lays "TickPoolsModel" "TickPoolsModel" "opened" "I" : Cond) ∈ lw_gt := tw_t tq_1350 rfl
theorem tw_1352 : (.lays "TickPoolsModel" "TickPoolsModel" "who" "I" : Cond) ∈ lw_gt := tw_t tq_1352 rfl
theorem tw_1354 : (.lays "TickPoolsModel" "TickPoolsModel" "doneMany" "I" : Cond) ∈ lw_gt := tw_t tq_1354 rfl
theorem tw_1356 : (.lays "TickPoolsModel" "TickPoolsModel" "got" "J" : Cond) ∈ lw_gt := tw_t tq_1356 rfl
theorem tw_1358 : (.lays "TickPoolsModel" "TickPoolsModel" "locked" "I" : Cond) ∈ lw_gt := tw_t tq_1358 rfl
theorem tw_1360 : (.laysFinal "TickPoolsModel" "TickPoolsModel" "within" "[I" : Cond) ∈ lw_gt := tw_t tq_1360 rfl
theorem tw_1362 : (.laysFinal "TickPoolsModel" "TickPoolsModel" "turns" "[I" : Cond) ∈ lw_gt := tw_t tq_1362 rfl
theorem tw_1364 : (.laysFinal "TickPoolsModel" "TickPoolsModel" "lent" "[J" : Cond) ∈ lw_gt := tw_t tq_1364 rfl
theorem tw_1366 : (.lays "TickPoolsModel" "TickPoolsModel" "deep" "I" : Cond) ∈ lw_gt := tw_t tq_1366 rfl
theorem tw_1368 : (.lays "TickPoolsModel" "TickPoolsModel" "best" "J" : Cond) ∈ lw_gt := tw_t tq_1368 rfl
theorem tw_1370 : (.lays "TickPoolsModel" "TickPoolsModel" "bestRow" "I" : Cond) ∈ lw_gt := tw_t tq_1370 rfl
theorem tw_1372 : (.lays "TickPoolsModel" "TickPoolsModel" "partsAll" "J" : Cond) ∈ lw_gt := tw_t tq_1372 rfl
theorem tw_1374 : (.lays "TickPoolsModel" "TickPoolsModel" "others" "I" : Cond) ∈ lw_gt := tw_t tq_1374 rfl
theorem tw_1377 : (.methodLink "TickPoolsLaw" 17 yX12_feed : Cond) ∈ lw_gt := tw_t tq_1377 rfl
theorem tw_1378 : (.instanceMethod yX12_feed : Cond) ∈ lw_gt := tw_t tq_1378 rfl
theorem tw_1379 : (.selects "TickPoolsModel" yX12_feed yX12_feed : Cond) ∈ lw_gt := tw_t tq_1379 rfl
theorem tw_1380 : ((Jvm.Cond.code ({ cls := "TickPoolsModel", name := "feed", desc := "(IIIII)I" } : Jvm.MethodName) prog_14_method_23_code (8 : Nat) (Option.some Jvm.ClassFile.FieldType.int)) : Cond) ∈ lw_gt := tw_t tq_1380 rfl
theorem tw_1381 : (.methodLink "TickPoolsLaw" 22 yX12_end : Cond) ∈ lw_gt := tw_t tq_1381 rfl
theorem tw_1382 : (.instanceMethod yX12_end : Cond) ∈ lw_gt := tw_t tq_1382 rfl
theorem tw_1383 : (.selects "TickPoolsModel" yX12_end yX12_end : Cond) ∈ lw_gt := tw_t tq_1383 rfl
theorem tw_1384 : ((Jvm.Cond.code ({ cls := "TickPoolsModel", name := "end", desc := "(I)I" } : Jvm.MethodName) prog_14_method_24_code (2 : Nat) (Option.some Jvm.ClassFile.FieldType.int)) : Cond) ∈ lw_gt := tw_t tq_1384 rfl
theorem tw_1385 : (.methodLink "TickPoolsModel" 137 yX12_isIn : Cond) ∈ lw_gt := tw_t tq_1385 rfl
theorem tw_1386 : (.static yX12_isIn : Cond) ∈ lw_gt := tw_t tq_1386 rfl
theorem tw_1387 : ((Jvm.Cond.code ({ cls := "TickPoolsModel", name := "isIn", desc := "(JJJ)Z" } : Jvm.MethodName) prog_14_method_2_code (6 : Nat) (Option.some Jvm.ClassFile.FieldType.boolean)) : Cond) ∈ lw_gt := tw_t tq_1387 rfl
theorem tw_1388 : (.methodLink "TickPoolsLaw" 27 yX12_market : Cond) ∈ lw_gt := tw_t tq_1388 rfl
theorem tw_1389 : (.instanceMethod yX12_market : Cond) ∈ lw_gt := tw_t tq_1389 rfl
theorem tw_1390 : (.selects "TickPoolsModel" yX12_market yX12_market : Cond) ∈ lw_gt := tw_t tq_1390 rfl
theorem tw_1391 : ((Jvm.Cond.code ({ cls := "TickPoolsModel", name := "market", desc := "()I" } : Jvm.MethodName) prog_14_method_41_code (2 : Nat) (Option.some Jvm.ClassFile.FieldType.int)) : Cond) ∈ lw_gt := tw_t tq_1391 rfl
theorem tw_1392 : (.methodLink "TickPoolsModel" 216 yX12_readsAll : Cond) ∈ lw_gt := tw_t tq_1392 rfl
theorem tw_1394 : (.instanceMethod yX12_readsAll : Cond) ∈ lw_gt := tw_t tq_1394 rfl
theorem tw_1395 : ((Jvm.Cond.code ({ cls := "TickPoolsModel", name := "readsAll", desc := "()Z" } : Jvm.MethodName) prog_14_method_39_code (2 : Nat) (Option.some Jvm.ClassFile.FieldType.boolean)) : Cond) ∈ lw_gt := tw_t tq_1395 rfl
theorem tw_1396 : (.methodLink "TickPoolsModel" 202 yX12_readsClause : Cond) ∈ lw_gt := tw_t tq_1396 rfl
theorem tw_1398 : (.instanceMethod yX12_readsClause : Cond) ∈ lw_gt := tw_t tq_1398 rfl
theorem tw_1399 : ((Jvm.Cond.code ({ cls := "TickPoolsModel", name := "readsClause", desc := "(I)Z" } : Jvm.MethodName) prog_14_method_38_code (5 : Nat) (Option.some Jvm.ClassFile.FieldType.boolean)) : Cond) ∈ lw_gt := tw_t tq_1399 rfl
theorem tw_1400 : (.methodLink "TickPoolsModel" 188 yX12_wordHere : Cond) ∈ lw_gt := tw_t tq_1400 rfl
theorem tw_1402 : (.instanceMethod yX12_wordHere : Cond) ∈ lw_gt := tw_t tq_1402 rfl
theorem tw_1403 : ((Jvm.Cond.code ({ cls := "TickPoolsModel", name := "wordHere", desc := "()J" } : Jvm.MethodName) prog_14_method_30_code (4 : Nat) (Option.some Jvm.ClassFile.FieldType.long)) : Cond) ∈ lw_gt := tw_t tq_1403 rfl
theorem tw_1404 : (.methodLink "TickPoolsModel" 151 yX12_next : Cond) ∈ lw_gt := tw_t tq_1404 rfl
theorem tw_1406 : (.instanceMethod yX12_next : Cond) ∈ lw_gt := tw_t tq_1406 rfl
theorem tw_1407 : ((Jvm.Cond.code ({ cls := "TickPoolsModel", name := "next", desc := "()I" } : Jvm.MethodName) prog_14_method_27_code (1 : Nat) (Option.some Jvm.ClassFile.FieldType.int)) : Cond) ∈ lw_gt := tw_t tq_1407 rfl
theorem tw_1408 : (.methodLink "TickPoolsModel" 147 yX12_byteAt : Cond) ∈ lw_gt := tw_t tq_1408 rfl
theorem tw_1410 : (.instanceMethod yX12_byteAt : Cond) ∈ lw_gt := tw_t tq_1410 rfl
theorem tw_1411 : ((Jvm.Cond.code ({ cls := "TickPoolsModel", name := "byteAt", desc := "(I)I" } : Jvm.MethodName) prog_14_method_26_code (2 : Nat) (Option.some Jvm.ClassFile.FieldType.int)) : Cond) ∈ lw_gt := tw_t tq_1411 rfl
theorem tw_1412 : (.methodLink "TickPoolsModel" 154 yX12_isLetter : Cond) ∈ lw_gt := tw_t tq_1412 rfl
theorem tw_1413 : (.static yX12_isLetter : Cond) ∈ lw_gt := tw_t tq_1413 rfl
theorem tw_1414 : ((Jvm.Cond.code ({ cls := "TickPoolsModel", name := "isLetter", desc := "(I)Z" } : Jvm.MethodName) prog_14_method_29_code (1 : Nat) (Option.some Jvm.ClassFile.FieldType.boolean)) : Cond) ∈ lw_gt := tw_t tq_1414 rfl
theorem tw_1415 : (.methodLink "TickPoolsModel" 165 yX12_fails : Cond) ∈ lw_gt := tw_t tq_1415 rfl
theorem tw_1417 : (.instanceMethod yX12_fails : Cond) ∈ lw_gt := tw_t tq_1417 rfl
theorem tw_1418 : ((Jvm.Cond.code ({ cls := "TickPoolsModel", name := "fails", desc := "(II)Z" } : Jvm.MethodName) prog_14_method_25_code (3 : Nat) (Option.some Jvm.ClassFile.FieldType.boolean)) : Cond) ∈ lw_gt := tw_t tq_1418 rfl
theorem tw_1419 : (.methodLink "TickPoolsModel" 192 yX12_readsMarket : Cond) ∈ lw_gt := tw_t tq_1419 rfl
theorem tw_1421 : (.instanceMethod yX12_readsMarket : Cond) ∈ lw_gt := tw_t tq_1421 rfl
theorem tw_1422 : ((Jvm.Cond.code ({ cls := "TickPoolsModel", name := "readsMarket", desc := "(I)Z" } : Jvm.MethodName) prog_14_method_35_code (3 : Nat) (Option.some Jvm.ClassFile.FieldType.boolean)) : Cond) ∈ lw_gt := tw_t tq_1422 rfl
theorem tw_1423 : (.methodLink "TickPoolsModel" 175 yX12_passWord : Cond) ∈ lw_gt := tw_t tq_1423 rfl
theorem tw_1425 : (.instanceMethod yX12_passWord : Cond) ∈ lw_gt := tw_t tq_1425 rfl
theorem tw_1426 : ((Jvm.Cond.code ({ cls := "TickPoolsModel", name := "passWord", desc := "()V" } : Jvm.MethodName) prog_14_method_32_code (1 : Nat) (Option.none : Option Jvm.ClassFile.FieldType)) : Cond) ∈ lw_gt := tw_t tq_1426 rfl
theorem tw_1427 : (.methodLink "TickPoolsModel" 178 yX12_reads : Cond) ∈ lw_gt := tw_t tq_1427 rfl
theorem tw_1429 : (.instanceMethod yX12_reads : Cond) ∈ lw_gt := tw_t tq_1429 rfl
theorem tw_1430 : ((Jvm.Cond.code ({ cls := "TickPoolsModel", name := "reads", desc := "(II)Z" } : Jvm.MethodName) prog_14_method_33_code (4 : Nat) (Option.some Jvm.ClassFile.FieldType.boolean)) : Cond) ∈ lw_gt := tw_t tq_1430 rfl
theorem tw_1431 : (.methodLink "TickPoolsModel" 162 yX12_isDigit : Cond) ∈ lw_gt := tw_t tq_1431 rfl
theorem tw_1432 : (.static yX12_isDigit : Cond) ∈ lw_gt := tw_t tq_1432 rfl
theorem tw_1433 : ((Jvm.Cond.code ({ cls := "TickPoolsModel", name := "isDigit", desc := "(I)Z" } : Jvm.MethodName) prog_14_method_28_code (1 : Nat) (Option.some Jvm.ClassFile.FieldType.boolean)) : Cond) ∈ lw_gt := tw_t tq_1433 rfl
theorem tw_1434 : (.methodLink "TickPoolsModel" 195 yX12_readsPool : Cond) ∈ lw_gt := tw_t tq_1434 rfl
theorem tw_1436 : (.instanceMethod yX12_readsPool : Cond) ∈ lw_gt := tw_t tq_1436 rfl
theorem tw_1437 : ((Jvm.Cond.code ({ cls := "TickPoolsModel", name := "readsPool", desc := "(I)Z" } : Jvm.MethodName) prog_14_method_36_code (6 : Nat) (Option.some Jvm.ClassFile.FieldType.boolean)) : Cond) ∈ lw_gt := tw_t tq_1437 rfl
theorem tw_1438 : (.methodLink "TickPoolsModel" 198 yX12_readsPurse : Cond) ∈ lw_gt := tw_t tq_1438 rfl
theorem tw_1440 : (.instanceMethod yX12_readsPurse : Cond) ∈ lw_gt := tw_t tq_1440 rfl
theorem tw_1441 : ((Jvm.Cond.code ({ cls := "TickPoolsModel", name := "readsPurse", desc := "()Z" } : Jvm.MethodName) prog_14_method_37_code (3 : Nat) (Option.some Jvm.ClassFile.FieldType.boolean)) : Cond) ∈ lw_gt := tw_t tq_1441 rfl
theorem tw_1442 : (.constant "TickPoolsModel" 187 9999999 : Cond) ∈ lw_gt := tw_t tq_1442 rfl
theorem tw_1443 : (.methodLink "TickPoolsModel" 205 yX12_takesSign : Cond) ∈ lw_gt := tw_t tq_1443 rfl
theorem tw_1445 : (.instanceMethod yX12_takesSign : Cond) ∈ lw_gt := tw_t tq_1445 rfl
theorem tw_1446 : ((Jvm.Cond.code ({ cls := "TickPoolsModel", name := "takesSign", desc := "(I)Z" } : Jvm.MethodName) prog_14_method_34_code (2 : Nat) (Option.some Jvm.ClassFile.FieldType.boolean)) : Cond) ∈ lw_gt := tw_t tq_1446 rfl
theorem tw_1447 : (.methodLink "TickPoolsModel" 219 yX12_begins : Cond) ∈ lw_gt := tw_t tq_1447 rfl
theorem tw_1449 : (.instanceMethod yX12_begins : Cond) ∈ lw_gt := tw_t tq_1449 rfl
theorem tw_1450 : ((Jvm.Cond.code ({ cls := "TickPoolsModel", name := "begins", desc := "()V" } : Jvm.MethodName) prog_14_method_40_code (4 : Nat) (Option.none : Option Jvm.ClassFile.FieldType)) : Cond) ∈ lw_gt := tw_t tq_1450 rfl
theorem tw_1451 : (.methodLink "TickPoolsModel" 208 yX12_setPool : Cond) ∈ lw_gt := tw_t tq_1451 rfl
theorem tw_1453 : (.instanceMethod yX12_setPool : Cond) ∈ lw_gt := tw_t tq_1453 rfl
theorem tw_1454 : ((Jvm.Cond.code ({ cls := "TickPoolsModel", name := "setPool", desc := "(IIJ)V" } : Jvm.MethodName) prog_14_method_10_code (5 : Nat) (Option.none : Option Jvm.ClassFile.FieldType)) : Cond) ∈ lw_gt := tw_t tq_1454 rfl
theorem tw_1455 : (.methodLink "TickPoolsModel" 212 yX12_zoneOf : Cond) ∈ lw_gt := tw_t tq_1455 rfl
theorem tw_1457 : (.instanceMethod yX12_zoneOf : Cond) ∈ lw_gt := tw_t tq_1457 rfl
theorem tw_1458 : ((Jvm.Cond.code ({ cls := "TickPoolsModel", name := "zoneOf", desc := "(J)I" } : Jvm.MethodName) prog_14_method_5_code (4 : Nat) (Option.some Jvm.ClassFile.FieldType.int)) : Cond) ∈ lw_gt := tw_t tq_1458 rfl
theorem tw_1459 : (.methodLink "TickPoolsLaw" 57 yX12_add : Cond) ∈ lw_gt := tw_t tq_1459 rfl
theorem tw_1460 : (.instanceMethod yX12_add : Cond) ∈ lw_gt := tw_t tq_1460 rfl
theorem tw_1461 : (.selects "TickPoolsModel" yX12_add yX12_add : Cond) ∈ lw_gt := tw_t tq_1461 rfl
theorem tw_1462 : ((Jvm.Cond.code ({ cls := "TickPoolsModel", name := "add", desc := "(IIIIII)I" } : Jvm.MethodName) prog_14_method_55_code (7 : Nat) (Option.some Jvm.ClassFile.FieldType.int)) : Cond) ∈ lw_gt := tw_t tq_1462 rfl
theorem tw_1463 : (.methodLink "TickPoolsModel" 303 yX12_adds : Cond) ∈ lw_gt := tw_t tq_1463 rfl
theorem tw_1465 : (.instanceMethod yX12_adds : Cond) ∈ lw_gt := tw_t tq_1465 rfl
theorem tw_1466 : ((Jvm.Cond.code ({ cls := "TickPoolsModel", name := "adds", desc := "(IIIIII)I" } : Jvm.MethodName) prog_14_method_54_code (9 : Nat) (Option.some Jvm.ClassFile.FieldType.int)) : Cond) ∈ lw_gt := tw_t tq_1466 rfl
theorem tw_1467 : (.methodLink "TickPoolsModel" 281 yX12_isPerson : Cond) ∈ lw_gt := tw_t tq_1467 rfl
theorem tw_1469 : (.instanceMethod yX12_isPerson : Cond) ∈ lw_gt := tw_t tq_1469 rfl
theorem tw_1470 : ((Jvm.Cond.code ({ cls := "TickPoolsModel", name := "isPerson", desc := "(I)Z" } : Jvm.MethodName) prog_14_method_20_code (2 : Nat) (Option.some Jvm.ClassFile.FieldType.boolean)) : Cond) ∈ lw_gt := tw_t tq_1470 rfl
theorem tw_1471 : (.methodLink "TickPoolsModel" 284 yX12_isPool : Cond) ∈ lw_gt := tw_t tq_1471 rfl
theorem tw_1473 : (.instanceMethod yX12_isPool : Cond) ∈ lw_gt := tw_t tq_1473 rfl
theorem tw_1474 : ((Jvm.Cond.code ({ cls := "TickPoolsModel", name := "isPool", desc := "(I)Z" } : Jvm.MethodName) prog_14_method_19_code (2 : Nat) (Option.some Jvm.ClassFile.FieldType.boolean)) : Cond) ∈ lw_gt := tw_t tq_1474 rfl
theorem tw_1475 : (.methodLink "TickPoolsModel" 287 yX12_areTicks : Cond) ∈ lw_gt := tw_t tq_1475 rfl
theorem tw_1477 : (.instanceMethod yX12_areTicks : Cond) ∈ lw_gt := tw_t tq_1477 rfl
theorem tw_1478 : ((Jvm.Cond.code ({ cls := "TickPoolsModel", name := "areTicks", desc := "(III)Z" } : Jvm.MethodName) prog_14_method_53_code (5 : Nat) (Option.some Jvm.ClassFile.FieldType.boolean)) : Cond) ∈ lw_gt := tw_t tq_1478 rfl
theorem tw_1479 : (.constantLong "TickPoolsModel" 279 40 : Cond) ∈ lw_gt := tw_t tq_1479 rfl
theorem tw_1480 : (.constantLong "TickPoolsModel" 290 2 : Cond) ∈ lw_gt := tw_t tq_1480 rfl
theorem tw_1481 : (.constantLong "TickPoolsModel" 292 99999 : Cond) ∈ lw_gt := tw_t tq_1481 rfl
theorem tw_1482 : (.methodLink "TickPoolsModel" 294 yX12_stakeOf : Cond) ∈ lw_gt := tw_t tq_1482 rfl
theorem tw_1484 : (.instanceMethod yX12_stakeOf : Cond) ∈ lw_gt := tw_t tq_1484 rfl
theorem tw_1485 : ((Jvm.Cond.code ({ cls := "TickPoolsModel", name := "stakeOf", desc := "(IIIII)I" } : Jvm.MethodName) prog_14_method_52_code (7 : Nat) (Option.some Jvm.ClassFile.FieldType.int)) : Cond) ∈ lw_gt := tw_t tq_1485 rfl
theorem tw_1486 : (.methodLink "TickPoolsModel" 130 yX12_stakes : Cond) ∈ lw_gt := tw_t tq_1486 rfl
theorem tw_1488 : (.instanceMethod yX12_stakes : Cond) ∈ lw_gt := tw_t tq_1488 rfl
theorem tw_1489 : ((Jvm.Cond.code ({ cls := "TickPoolsModel", name := "stakes", desc := "()I" } : Jvm.MethodName) prog_14_method_14_code (1 : Nat) (Option.some Jvm.ClassFile.FieldType.int)) : Cond) ∈ lw_gt := tw_t tq_1489 rfl
theorem tw_1490 : (.methodLink "TickPoolsModel" 238 yX12_ofStake : Cond) ∈ lw_gt := tw_t tq_1490 rfl
theorem tw_1492 : (.instanceMethod yX12_ofStake : Cond) ∈ lw_gt := tw_t tq_1492 rfl
theorem tw_1493 : ((Jvm.Cond.code ({ cls := "TickPoolsModel", name := "ofStake", desc := "(II)J" } : Jvm.MethodName) prog_14_method_12_code (3 : Nat) (Option.some Jvm.ClassFile.FieldType.long)) : Cond) ∈ lw_gt := tw_t tq_1493 rfl
theorem tw_1494 : (.constantLong "TickPoolsModel" 298 999999 : Cond) ∈ lw_gt := tw_t tq_1494 rfl
theorem tw_1495 : (.methodLink "TickPoolsModel" 271 yX12_liesIn : Cond) ∈ lw_gt := tw_t tq_1495 rfl
theorem tw_1497 : (.instanceMethod yX12_liesIn : Cond) ∈ lw_gt := tw_t tq_1497 rfl
theorem tw_1498 : ((Jvm.Cond.code ({ cls := "TickPoolsModel", name := "liesIn", desc := "(IIIJIZ)J" } : Jvm.MethodName) prog_14_method_44_code (13 : Nat) (Option.some Jvm.ClassFile.FieldType.long)) : Cond) ∈ lw_gt := tw_t tq_1498 rfl
theorem tw_1499 : (.methodLink "TickPoolsModel" 228 yX12_zoneNow : Cond) ∈ lw_gt := tw_t tq_1499 rfl
theorem tw_1501 : (.instanceMethod yX12_zoneNow : Cond) ∈ lw_gt := tw_t tq_1501 rfl
theorem tw_1502 : ((Jvm.Cond.code ({ cls := "TickPoolsModel", name := "zoneNow", desc := "(I)I" } : Jvm.MethodName) prog_14_method_15_code (2 : Nat) (Option.some Jvm.ClassFile.FieldType.int)) : Cond) ∈ lw_gt := tw_t tq_1502 rfl
theorem tw_1503 : (.methodLink "TickPoolsModel" 116 yX12_ofPool : Cond) ∈ lw_gt := tw_t tq_1503 rfl
theorem tw_1505 : (.instanceMethod yX12_ofPool : Cond) ∈ lw_gt := tw_t tq_1505 rfl
theorem tw_1506 : ((Jvm.Cond.code ({ cls := "TickPoolsModel", name := "ofPool", desc := "(II)J" } : Jvm.MethodName) prog_14_method_9_code (3 : Nat) (Option.some Jvm.ClassFile.FieldType.long)) : Cond) ∈ lw_gt := tw_t tq_1506 rfl
theorem tw_1507 : (.methodLink "TickPoolsModel" 231 yX12_first : Cond) ∈ lw_gt := tw_t tq_1507 rfl
theorem tw_1508 : (.static yX12_first : Cond) ∈ lw_gt := tw_t tq_1508 rfl
theorem tw_1509 : ((Jvm.Cond.code ({ cls := "TickPoolsModel", name := "first", desc := "(JJJZ)J" } : Jvm.MethodName) prog_14_method_42_code (9 : Nat) (Option.some Jvm.ClassFile.FieldType.long)) : Cond) ∈ lw_gt := tw_t tq_1509 rfl
theorem tw_1510 : (.constantLong "TickPoolsModel" 222 100000 : Cond) ∈ lw_gt := tw_t tq_1510 rfl
theorem tw_1511 : (.methodLink "TickPoolsModel" 224 yX12_up : Cond) ∈ lw_gt := tw_t tq_1511 rfl
theorem tw_1512 : (.static yX12_up : Cond) ∈ lw_gt := tw_t tq_1512 rfl
theorem tw_1513 : ((Jvm.Cond.code ({ cls := "TickPoolsModel", name := "up", desc := "(JJ)J" } : Jvm.MethodName) prog_14_method_3_code (4 : Nat) (Option.some Jvm.ClassFile.FieldType.long)) : Cond) ∈ lw_gt := tw_t tq_1513 rfl
theorem tw_1514 : (.methodLink "TickPoolsModel" 235 yX12_second : Cond) ∈ lw_gt := tw_t tq_1514 rfl
theorem tw_1515 : (.static yX12_second : Cond) ∈ lw_gt := tw_t tq_1515 rfl
theorem tw_1516 : ((Jvm.Cond.code ({ cls := "TickPoolsModel", name := "second", desc := "(JJJZ)J" } : Jvm.MethodName) prog_14_method_43_code (9 : Nat) (Option.some Jvm.ClassFile.FieldType.long)) : Cond) ∈ lw_gt := tw_t tq_1516 rfl
theorem tw_1517 : (.methodLink "TickPoolsModel" 256 yX12_thingOf : Cond) ∈ lw_gt := tw_t tq_1517 rfl
theorem tw_1519 : (.instanceMethod yX12_thingOf : Cond) ∈ lw_gt := tw_t tq_1519 rfl
theorem tw_1520 : ((Jvm.Cond.code ({ cls := "TickPoolsModel", name := "thingOf", desc := "(II)I" } : Jvm.MethodName) prog_14_method_16_code (3 : Nat) (Option.some Jvm.ClassFile.FieldType.int)) : Cond) ∈ lw_gt := tw_t tq_1520 rfl
theorem tw_1521 : (.methodLink "TickPoolsModel" 300 yX12_inPurse : Cond) ∈ lw_gt := tw_t tq_1521 rfl
theorem tw_1523 : (.instanceMethod yX12_inPurse : Cond) ∈ lw_gt := tw_t tq_1523 rfl
theorem tw_1524 : ((Jvm.Cond.code ({ cls := "TickPoolsModel", name := "inPurse", desc := "(II)J" } : Jvm.MethodName) prog_14_method_17_code (3 : Nat) (Option.some Jvm.ClassFile.FieldType.long)) : Cond) ∈ lw_gt := tw_t tq_1524 rfl
theorem tw_1525 : (.methodLink "TickPoolsModel" 250 yX12_setStake : Cond) ∈ lw_gt := tw_t tq_1525 rfl
theorem tw_1527 : (.instanceMethod yX12_setStake : Cond) ∈ lw_gt := tw_t tq_1527 rfl
theorem tw_1528 : ((Jvm.Cond.code ({ cls := "TickPoolsModel", name := "setStake", desc := "(IIJ)V" } : Jvm.MethodName) prog_14_method_13_code (5 : Nat) (Option.none : Option Jvm.ClassFile.FieldType)) : Cond) ∈ lw_gt := tw_t tq_1528 rfl
theorem tw_1529 : (.methodLink "TickPoolsModel" 267 yX12_settles : Cond) ∈ lw_gt := tw_t tq_1529 rfl
theorem tw_1531 : (.instanceMethod yX12_settles : Cond) ∈ lw_gt := tw_t tq_1531 rfl
theorem tw_1532 : ((Jvm.Cond.code ({ cls := "TickPoolsModel", name := "settles", desc := "(I)V" } : Jvm.MethodName) prog_14_method_48_code (3 : Nat) (Option.none : Option Jvm.ClassFile.FieldType)) : Cond) ∈ lw_gt := tw_t tq_1532 rfl
theorem tw_1533 : (.methodLink "TickPoolsModel" 247 yX12_owedTo : Cond) ∈ lw_gt := tw_t tq_1533 rfl
theorem tw_1535 : (.instanceMethod yX12_owedTo : Cond) ∈ lw_gt := tw_t tq_1535 rfl
theorem tw_1536 : ((Jvm.Cond.code ({ cls := "TickPoolsModel", name := "owedTo", desc := "(II)J" } : Jvm.MethodName) prog_14_method_47_code (3 : Nat) (Option.some Jvm.ClassFile.FieldType.long)) : Cond) ∈ lw_gt := tw_t tq_1536 rfl
theorem tw_1537 : (.constantLong "TickPoolsModel" 245 1048576 : Cond) ∈ lw_gt := tw_t tq_1537 rfl
theorem tw_1538 : (.methodLink "TickPoolsModel" 263 yX12_goesOut : Cond) ∈ lw_gt := tw_t tq_1538 rfl
theorem tw_1540 : (.instanceMethod yX12_goesOut : Cond) ∈ lw_gt := tw_t tq_1540 rfl
theorem tw_1541 : ((Jvm.Cond.code ({ cls := "TickPoolsModel", name := "goesOut", desc := "(IIIJ)V" } : Jvm.MethodName) prog_14_method_49_code (6 : Nat) (Option.none : Option Jvm.ClassFile.FieldType)) : Cond) ∈ lw_gt := tw_t tq_1541 rfl
theorem tw_1542 : (.methodLink "TickPoolsModel" 253 yX12_morePool : Cond) ∈ lw_gt := tw_t tq_1542 rfl
theorem tw_1544 : (.instanceMethod yX12_morePool : Cond) ∈ lw_gt := tw_t tq_1544 rfl
theorem tw_1545 : ((Jvm.Cond.code ({ cls := "TickPoolsModel", name := "morePool", desc := "(IIJ)V" } : Jvm.MethodName) prog_14_method_11_code (5 : Nat) (Option.none : Option Jvm.ClassFile.FieldType)) : Cond) ∈ lw_gt := tw_t tq_1545 rfl
theorem tw_1546 : (.methodLink "TickPoolsModel" 260 yX12_morePurse : Cond) ∈ lw_gt := tw_t tq_1546 rfl
theorem tw_1548 : (.instanceMethod yX12_morePurse : Cond) ∈ lw_gt := tw_t tq_1548 rfl
theorem tw_1549 : ((Jvm.Cond.code ({ cls := "TickPoolsModel", name := "morePurse", desc := "(IIJ)V" } : Jvm.MethodName) prog_14_method_18_code (5 : Nat) (Option.none : Option Jvm.ClassFile.FieldType)) : Cond) ∈ lw_gt := tw_t tq_1549 rfl
theorem tw_1550 : (.methodLink "TickPoolsLaw" 61 yX12_take : Cond) ∈ lw_gt := tw_t tq_1550 rfl
theorem tw_1551 : (.instanceMethod yX12_take : Cond) ∈ lw_gt := tw_t tq_1551 rfl
theorem tw_1552 : (.selects "TickPoolsModel" yX12_take yX12_take : Cond) ∈ lw_gt := tw_t tq_1552 rfl
theorem tw_1553 : ((Jvm.Cond.code ({ cls := "TickPoolsModel", name := "take", desc := "(II)I" } : Jvm.MethodName) prog_14_method_56_code (3 : Nat) (Option.some Jvm.ClassFile.FieldType.int)) : Cond) ∈ lw_gt := tw_t tq_1553 rfl
theorem tw_1554 : (.methodLink "TickPoolsModel" 307 yX12_isStake : Cond) ∈ lw_gt := tw_t tq_1554 rfl
theorem tw_1556 : (.instanceMethod yX12_isStake : Cond) ∈ lw_gt := tw_t tq_1556 rfl
theorem tw_1557 : ((Jvm.Cond.code ({ cls := "TickPoolsModel", name := "isStake", desc := "(I)Z" } : Jvm.MethodName) prog_14_method_22_code (2 : Nat) (Option.some Jvm.ClassFile.FieldType.boolean)) : Cond) ∈ lw_gt := tw_t tq_1557 rfl
theorem tw_1558 : (.methodLink "TickPoolsModel" 310 yX12_takesOut : Cond) ∈ lw_gt := tw_t tq_1558 rfl
theorem tw_1560 : (.instanceMethod yX12_takesOut : Cond) ∈ lw_gt := tw_t tq_1560 rfl
theorem tw_1561 : ((Jvm.Cond.code ({ cls := "TickPoolsModel", name := "takesOut", desc := "(IJ)V" } : Jvm.MethodName) prog_14_method_51_code (6 : Nat) (Option.none : Option Jvm.ClassFile.FieldType)) : Cond) ∈ lw_gt := tw_t tq_1561 rfl
theorem tw_1562 : (.methodLink "TickPoolsModel" 275 yX12_paysOut : Cond) ∈ lw_gt := tw_t tq_1562 rfl
theorem tw_1564 : (.instanceMethod yX12_paysOut : Cond) ∈ lw_gt := tw_t tq_1564 rfl
theorem tw_1565 : ((Jvm.Cond.code ({ cls := "TickPoolsModel", name := "paysOut", desc := "(I)J" } : Jvm.MethodName) prog_14_method_50_code (7 : Nat) (Option.some Jvm.ClassFile.FieldType.long)) : Cond) ∈ lw_gt := tw_t tq_1565 rfl
theorem tw_1566 : (.methodLink "TickPoolsLaw" 65 yX12_pay : Cond) ∈ lw_gt := tw_t tq_1566 rfl
theorem tw_1567 : (.instanceMethod yX12_pay : Cond) ∈ lw_gt := tw_t tq_1567 rfl
theorem tw_1568 : (.selects "TickPoolsModel" yX12_pay yX12_pay : Cond) ∈ lw_gt := tw_t tq_1568 rfl
theorem tw_1569 : ((Jvm.Cond.code ({ cls := "TickPoolsModel", name := "pay", desc := "(I)I" } : Jvm.MethodName) prog_14_method_57_code (2 : Nat) (Option.some Jvm.ClassFile.FieldType.int)) : Cond) ∈ lw_gt := tw_t tq_1569 rfl
theorem tw_1570 : (.methodLink "TickPoolsLaw" 69 yX12_levy : Cond) ∈ lw_gt := tw_t tq_1570 rfl
theorem tw_1571 : (.instanceMethod yX12_levy : Cond) ∈ lw_gt := tw_t tq_1571 rfl
theorem tw_1572 : (.selects "TickPoolsModel" yX12_levy yX12_levy : Cond) ∈ lw_gt := tw_t tq_1572 rfl
theorem tw_1573 : ((Jvm.Cond.code ({ cls := "TickPoolsModel", name := "levy", desc := "(I)I" } : Jvm.MethodName) prog_14_method_58_code (7 : Nat) (Option.some Jvm.ClassFile.FieldType.int)) : Cond) ∈ lw_gt := tw_t tq_1573 rfl
theorem tw_1574 : (.methodLink "TickPoolsLaw" 86 yX12_mean : Cond) ∈ lw_gt := tw_t tq_1574 rfl
theorem tw_1575 : (.instanceMethod yX12_mean : Cond) ∈ lw_gt := tw_t tq_1575 rfl
theorem tw_1576 : (.selects "TickPoolsModel" yX12_mean yX12_mean : Cond) ∈ lw_gt := tw_t tq_1576 rfl
theorem tw_1577 : ((Jvm.Cond.code ({ cls := "TickPoolsModel", name := "mean", desc := "(II)I" } : Jvm.MethodName) prog_14_method_75_code (5 : Nat) (Option.some Jvm.ClassFile.FieldType.int)) : Cond) ∈ lw_gt := tw_t tq_1577 rfl
theorem tw_1578 : (.methodLink "TickPoolsModel" 376 yX12_markOf : Cond) ∈ lw_gt := tw_t tq_1578 rfl
theorem tw_1580 : (.instanceMethod yX12_markOf : Cond) ∈ lw_gt := tw_t tq_1580 rfl
theorem tw_1581 : ((Jvm.Cond.code ({ cls := "TickPoolsModel", name := "markOf", desc := "(III)J" } : Jvm.MethodName) prog_14_method_71_code (4 : Nat) (Option.some Jvm.ClassFile.FieldType.long)) : Cond) ∈ lw_gt := tw_t tq_1581 rfl
theorem tw_1582 : (.methodLink "TickPoolsModel" 379 yX12_sumAt : Cond) ∈ lw_gt := tw_t tq_1582 rfl
theorem tw_1584 : (.instanceMethod yX12_sumAt : Cond) ∈ lw_gt := tw_t tq_1584 rfl
theorem tw_1585 : ((Jvm.Cond.code ({ cls := "TickPoolsModel", name := "sumAt", desc := "(IJ)J" } : Jvm.MethodName) prog_14_method_73_code (7 : Nat) (Option.some Jvm.ClassFile.FieldType.long)) : Cond) ∈ lw_gt := tw_t tq_1585 rfl
theorem tw_1586 : (.methodLink "TickPoolsModel" 373 yX12_marks : Cond) ∈ lw_gt := tw_t tq_1586 rfl
theorem tw_1588 : (.instanceMethod yX12_marks : Cond) ∈ lw_gt := tw_t tq_1588 rfl
theorem tw_1589 : ((Jvm.Cond.code ({ cls := "TickPoolsModel", name := "marks", desc := "(I)I" } : Jvm.MethodName) prog_14_method_72_code (2 : Nat) (Option.some Jvm.ClassFile.FieldType.int)) : Cond) ∈ lw_gt := tw_t tq_1589 rfl
theorem tw_1590 : (.methodLink "TickPoolsLaw" 82 yX12_passes : Cond) ∈ lw_gt := tw_t tq_1590 rfl
theorem tw_1591 : (.instanceMethod yX12_passes : Cond) ∈ lw_gt := tw_t tq_1591 rfl
theorem tw_1592 : (.selects "TickPoolsModel" yX12_passes yX12_passes : Cond) ∈ lw_gt := tw_t tq_1592 rfl
theorem tw_1593 : ((Jvm.Cond.code ({ cls := "TickPoolsModel", name := "passes", desc := "(I)I" } : Jvm.MethodName) prog_14_method_76_code (2 : Nat) (Option.some Jvm.ClassFile.FieldType.int)) : Cond) ∈ lw_gt := tw_t tq_1593 rfl
theorem tw_1594 : (.constantLong "TickPoolsModel" 384 9999 : Cond) ∈ lw_gt := tw_t tq_1594 rfl
theorem tw_1595 : (.constantLong "TickPoolsModel" 386 9999999 : Cond) ∈ lw_gt := tw_t tq_1595 rfl
theorem tw_1596 : (.methodLink "TickPoolsLaw" 73 yX12_in : Cond) ∈ lw_gt := tw_t tq_1596 rfl
theorem tw_1597 : (.instanceMethod yX12_in : Cond) ∈ lw_gt := tw_t tq_1597 rfl
theorem tw_1598 : (.selects "TickPoolsModel" yX12_in yX12_in : Cond) ∈ lw_gt := tw_t tq_1598 rfl
theorem tw_1599 : ((Jvm.Cond.code ({ cls := "TickPoolsModel", name := "in", desc := "(IIIII)I" } : Jvm.MethodName) prog_14_method_78_code (6 : Nat) (Option.some Jvm.ClassFile.FieldType.int)) : Cond) ∈ lw_gt := tw_t tq_1599 rfl
theorem tw_1600 : (.methodLink "TickPoolsModel" 388 yX12_isSide : Cond) ∈ lw_gt := tw_t tq_1600 rfl
theorem tw_1601 : (.static yX12_isSide : Cond) ∈ lw_gt := tw_t tq_1601 rfl
theorem tw_1602 : ((Jvm.Cond.code ({ cls := "TickPoolsModel", name := "isSide", desc := "(I)Z" } : Jvm.MethodName) prog_14_method_70_code (1 : Nat) (Option.some Jvm.ClassFile.FieldType.boolean)) : Cond) ∈ lw_gt := tw_t tq_1602 rfl
theorem tw_1603 : (.methodLink "TickPoolsModel" 391 yX12_marksNow : Cond) ∈ lw_gt := tw_t tq_1603 rfl
theorem tw_1605 : (.instanceMethod yX12_marksNow : Cond) ∈ lw_gt := tw_t tq_1605 rfl
theorem tw_1606 : ((Jvm.Cond.code ({ cls := "TickPoolsModel", name := "marksNow", desc := "(I)V" } : Jvm.MethodName) prog_14_method_74_code (5 : Nat) (Option.none : Option Jvm.ClassFile.FieldType)) : Cond) ∈ lw_gt := tw_t tq_1606 rfl
theorem tw_1607 : (.constantLong "TickPoolsModel" 382 (-1) : Cond) ∈ lw_gt := tw_t tq_1607 rfl
theorem tw_1608 : (.methodLink "TickPoolsModel" 394 yX12_swaps : Cond) ∈ lw_gt := tw_t tq_1608 rfl
theorem tw_1610 : (.instanceMethod yX12_swaps : Cond) ∈ lw_gt := tw_t tq_1610 rfl
theorem tw_1611 : ((Jvm.Cond.code ({ cls := "TickPoolsModel", name := "swaps", desc := "(IIJIZ)V" } : Jvm.MethodName) prog_14_method_68_code (8 : Nat) (Option.none : Option Jvm.ClassFile.FieldType)) : Cond) ∈ lw_gt := tw_t tq_1611 rfl
theorem tw_1612 : (.methodLink "TickPoolsModel" 369 yX12_steps : Cond) ∈ lw_gt := tw_t tq_1612 rfl
theorem tw_1614 : (.instanceMethod yX12_steps : Cond) ∈ lw_gt := tw_t tq_1614 rfl
theorem tw_1615 : ((Jvm.Cond.code ({ cls := "TickPoolsModel", name := "steps", desc := "(IIIZ)Z" } : Jvm.MethodName) prog_14_method_67_code (27 : Nat) (Option.some Jvm.ClassFile.FieldType.boolean)) : Cond) ∈ lw_gt := tw_t tq_1615 rfl
theorem tw_1616 : (.methodLink "TickPoolsModel" 322 yX12_aimOf : Cond) ∈ lw_gt := tw_t tq_1616 rfl
theorem tw_1618 : (.instanceMethod yX12_aimOf : Cond) ∈ lw_gt := tw_t tq_1618 rfl
theorem tw_1619 : ((Jvm.Cond.code ({ cls := "TickPoolsModel", name := "aimOf", desc := "(III)I" } : Jvm.MethodName) prog_14_method_59_code (9 : Nat) (Option.some Jvm.ClassFile.FieldType.int)) : Cond) ∈ lw_gt := tw_t tq_1619 rfl
theorem tw_1620 : (.methodLink "TickPoolsModel" 316 yX12_depthOf : Cond) ∈ lw_gt := tw_t tq_1620 rfl
theorem tw_1622 : (.instanceMethod yX12_depthOf : Cond) ∈ lw_gt := tw_t tq_1622 rfl
theorem tw_1623 : ((Jvm.Cond.code ({ cls := "TickPoolsModel", name := "depthOf", desc := "(II)J" } : Jvm.MethodName) prog_14_method_46_code (6 : Nat) (Option.some Jvm.ClassFile.FieldType.long)) : Cond) ∈ lw_gt := tw_t tq_1623 rfl
theorem tw_1624 : (.methodLink "TickPoolsModel" 241 yX12_isAcross : Cond) ∈ lw_gt := tw_t tq_1624 rfl
theorem tw_1626 : (.instanceMethod yX12_isAcross : Cond) ∈ lw_gt := tw_t tq_1626 rfl
theorem tw_1627 : ((Jvm.Cond.code ({ cls := "TickPoolsModel", name := "isAcross", desc := "(III)Z" } : Jvm.MethodName) prog_14_method_45_code (4 : Nat) (Option.some Jvm.ClassFile.FieldType.boolean)) : Cond) ∈ lw_gt := tw_t tq_1627 rfl
theorem tw_1628 : (.methodLink "TickPoolsModel" 319 yX12_feeOf : Cond) ∈ lw_gt := tw_t tq_1628 rfl
theorem tw_1630 : (.instanceMethod yX12_feeOf : Cond) ∈ lw_gt := tw_t tq_1630 rfl
theorem tw_1631 : ((Jvm.Cond.code ({ cls := "TickPoolsModel", name := "feeOf", desc := "(I)I" } : Jvm.MethodName) prog_14_method_6_code (2 : Nat) (Option.some Jvm.ClassFile.FieldType.int)) : Cond) ∈ lw_gt := tw_t tq_1631 rfl
theorem tw_1632 : (.constantLong "TickPoolsModel" 329 1000 : Cond) ∈ lw_gt := tw_t tq_1632 rfl
theorem tw_1633 : (.methodLink "TickPoolsModel" 331 yX12_wantedTo : Cond) ∈ lw_gt := tw_t tq_1633 rfl
theorem tw_1635 : (.instanceMethod yX12_wantedTo : Cond) ∈ lw_gt := tw_t tq_1635 rfl
theorem tw_1636 : ((Jvm.Cond.code ({ cls := "TickPoolsModel", name := "wantedTo", desc := "(III)J" } : Jvm.MethodName) prog_14_method_61_code (6 : Nat) (Option.some Jvm.ClassFile.FieldType.long)) : Cond) ∈ lw_gt := tw_t tq_1636 rfl
theorem tw_1637 : (.methodLink "TickPoolsModel" 335 yX12_rootByOut : Cond) ∈ lw_gt := tw_t tq_1637 rfl
theorem tw_1639 : (.instanceMethod yX12_rootByOut : Cond) ∈ lw_gt := tw_t tq_1639 rfl
theorem tw_1640 : ((Jvm.Cond.code ({ cls := "TickPoolsModel", name := "rootByOut", desc := "(IIJ)J" } : Jvm.MethodName) prog_14_method_64_code (9 : Nat) (Option.some Jvm.ClassFile.FieldType.long)) : Cond) ∈ lw_gt := tw_t tq_1640 rfl
theorem tw_1641 : (.methodLink "TickPoolsModel" 339 yX12_rootBy : Cond) ∈ lw_gt := tw_t tq_1641 rfl
theorem tw_1643 : (.instanceMethod yX12_rootBy : Cond) ∈ lw_gt := tw_t tq_1643 rfl
theorem tw_1644 : ((Jvm.Cond.code ({ cls := "TickPoolsModel", name := "rootBy", desc := "(IIJ)J" } : Jvm.MethodName) prog_14_method_63_code (9 : Nat) (Option.some Jvm.ClassFile.FieldType.long)) : Cond) ∈ lw_gt := tw_t tq_1644 rfl
theorem tw_1645 : (.methodLink "TickPoolsModel" 342 yX12_feeUpon : Cond) ∈ lw_gt := tw_t tq_1645 rfl
theorem tw_1647 : (.instanceMethod yX12_feeUpon : Cond) ∈ lw_gt := tw_t tq_1647 rfl
theorem tw_1648 : ((Jvm.Cond.code ({ cls := "TickPoolsModel", name := "feeUpon", desc := "(IJ)J" } : Jvm.MethodName) prog_14_method_62_code (4 : Nat) (Option.some Jvm.ClassFile.FieldType.long)) : Cond) ∈ lw_gt := tw_t tq_1648 rfl
theorem tw_1649 : (.methodLink "TickPoolsModel" 346 yX12_shares : Cond) ∈ lw_gt := tw_t tq_1649 rfl
theorem tw_1651 : (.instanceMethod yX12_shares : Cond) ∈ lw_gt := tw_t tq_1651 rfl
theorem tw_1652 : ((Jvm.Cond.code ({ cls := "TickPoolsModel", name := "shares", desc := "(IIJ)V" } : Jvm.MethodName) prog_14_method_60_code (11 : Nat) (Option.none : Option Jvm.ClassFile.FieldType)) : Cond) ∈ lw_gt := tw_t tq_1652 rfl
theorem tw_1653 : (.constantLong "TickPoolsModel" 314 100 : Cond) ∈ lw_gt := tw_t tq_1653 rfl
theorem tw_1654 : (.methodLink "TickPoolsModel" 358 yX12_zoneBy : Cond) ∈ lw_gt := tw_t tq_1654 rfl
theorem tw_1656 : (.instanceMethod yX12_zoneBy : Cond) ∈ lw_gt := tw_t tq_1656 rfl
theorem tw_1657 : ((Jvm.Cond.code ({ cls := "TickPoolsModel", name := "zoneBy", desc := "(IIII)I" } : Jvm.MethodName) prog_14_method_65_code (6 : Nat) (Option.some Jvm.ClassFile.FieldType.int)) : Cond) ∈ lw_gt := tw_t tq_1657 rfl
theorem tw_1658 : (.methodLink "TickPoolsModel" 365 yX12_drops : Cond) ∈ lw_gt := tw_t tq_1658 rfl
theorem tw_1660 : (.instanceMethod yX12_drops : Cond) ∈ lw_gt := tw_t tq_1660 rfl
theorem tw_1661 : ((Jvm.Cond.code ({ cls := "TickPoolsModel", name := "drops", desc := "(III)V" } : Jvm.MethodName) prog_14_method_66_code (6 : Nat) (Option.none : Option Jvm.ClassFile.FieldType)) : Cond) ∈ lw_gt := tw_t tq_1661 rfl
theorem tw_1662 : (.methodLink "TickPoolsModel" 398 yX12_trades : Cond) ∈ lw_gt := tw_t tq_1662 rfl
theorem tw_1664 : (.instanceMethod yX12_trades : Cond) ∈ lw_gt := tw_t tq_1664 rfl
theorem tw_1665 : ((Jvm.Cond.code ({ cls := "TickPoolsModel", name := "trades", desc := "(III)V" } : Jvm.MethodName) prog_14_method_77_code (4 : Nat) (Option.none : Option Jvm.ClassFile.FieldType)) : Cond) ∈ lw_gt := tw_t tq_1665 rfl
theorem tw_1666 : (.methodLink "TickPoolsLaw" 78 yX12_out : Cond) ∈ lw_gt := tw_t tq_1666 rfl
theorem tw_1667 : (.instanceMethod yX12_out : Cond) ∈ lw_gt := tw_t tq_1667 rfl
theorem tw_1668 : (.selects "TickPoolsModel" yX12_out yX12_out : Cond) ∈ lw_gt := tw_t tq_1668 rfl
theorem tw_1669 : ((Jvm.Cond.code ({ cls := "TickPoolsModel", name := "out", desc := "(IIII)I" } : Jvm.MethodName) prog_14_method_79_code (7 : Nat) (Option.some Jvm.ClassFile.FieldType.int)) : Cond) ∈ lw_gt := tw_t tq_1669 rfl
theorem tw_1670 : (.methodLink "TickPoolsModel" 401 yX12_keeps : Cond) ∈ lw_gt := tw_t tq_1670 rfl
theorem tw_1672 : (.instanceMethod yX12_keeps : Cond) ∈ lw_gt := tw_t tq_1672 rfl
theorem tw_1673 : ((Jvm.Cond.code ({ cls := "TickPoolsModel", name := "keeps", desc := "(I)V" } : Jvm.MethodName) prog_14_method_7_code (3 : Nat) (Option.none : Option Jvm.ClassFile.FieldType)) : Cond) ∈ lw_gt := tw_t tq_1673 rfl
theorem tw_1674 : (.methodLink "TickPoolsModel" 404 yX12_endOf : Cond) ∈ lw_gt := tw_t tq_1674 rfl
theorem tw_1675 : (.static yX12_endOf : Cond) ∈ lw_gt := tw_t tq_1675 rfl
theorem tw_1676 : ((Jvm.Cond.code ({ cls := "TickPoolsModel", name := "endOf", desc := "(I)I" } : Jvm.MethodName) prog_14_method_69_code (1 : Nat) (Option.some Jvm.ClassFile.FieldType.int)) : Cond) ∈ lw_gt := tw_t tq_1676 rfl
theorem tw_1677 : (.methodLink "TickPoolsModel" 407 yX12_laysBack : Cond) ∈ lw_gt := tw_t tq_1677 rfl
theorem tw_1679 : (.instanceMethod yX12_laysBack : Cond) ∈ lw_gt := tw_t tq_1679 rfl
theorem tw_1680 : ((Jvm.Cond.code ({ cls := "TickPoolsModel", name := "laysBack", desc := "(I)V" } : Jvm.MethodName) prog_14_method_8_code (3 : Nat) (Option.none : Option Jvm.ClassFile.FieldType)) : Cond) ∈ lw_gt := tw_t tq_1680 rfl
theorem tw_1681 : (.methodLink "TickPoolsLaw" 31 yX12_bundle : Cond) ∈ lw_gt := tw_t tq_1681 rfl
theorem tw_1682 : (.instanceMethod yX12_bundle : Cond) ∈ lw_gt := tw_t tq_1682 rfl
theorem tw_1683 : (.selects "TickPoolsModel" yX12_bundle yX12_bundle : Cond) ∈ lw_gt := tw_t tq_1683 rfl
theorem tw_1684 : ((Jvm.Cond.code ({ cls := "TickPoolsModel", name := "bundle", desc := "(I)I" } : Jvm.MethodName) prog_14_method_99_code (3 : Nat) (Option.some Jvm.ClassFile.FieldType.int)) : Cond) ∈ lw_gt := tw_t tq_1684 rfl
theorem tw_1685 : (.methodLink "TickPoolsModel" 497 yX12_readsBundle : Cond) ∈ lw_gt := tw_t tq_1685 rfl
theorem tw_1687 : (.instanceMethod yX12_readsBundle : Cond) ∈ lw_gt := tw_t tq_1687 rfl
theorem tw_1688 : ((Jvm.Cond.code ({ cls := "TickPoolsModel", name := "readsBundle", desc := "()Z" } : Jvm.MethodName) prog_14_method_86_code (3 : Nat) (Option.some Jvm.ClassFile.FieldType.boolean)) : Cond) ∈ lw_gt := tw_t tq_1688 rfl
theorem tw_1689 : (.methodLink "TickPoolsModel" 431 yX12_readsStep : Cond) ∈ lw_gt := tw_t tq_1689 rfl
theorem tw_1691 : (.instanceMethod yX12_readsStep : Cond) ∈ lw_gt := tw_t tq_1691 rfl
theorem tw_1692 : ((Jvm.Cond.code ({ cls := "TickPoolsModel", name := "readsStep", desc := "()Z" } : Jvm.MethodName) prog_14_method_84_code (5 : Nat) (Option.some Jvm.ClassFile.FieldType.boolean)) : Cond) ∈ lw_gt := tw_t tq_1692 rfl
theorem tw_1693 : (.methodLink "TickPoolsModel" 413 yX12_kindBy : Cond) ∈ lw_gt := tw_t tq_1693 rfl
theorem tw_1694 : (.static yX12_kindBy : Cond) ∈ lw_gt := tw_t tq_1694 rfl
theorem tw_1695 : ((Jvm.Cond.code ({ cls := "TickPoolsModel", name := "kindBy", desc := "(J[J)I" } : Jvm.MethodName) prog_14_method_80_code (4 : Nat) (Option.some Jvm.ClassFile.FieldType.int)) : Cond) ∈ lw_gt := tw_t tq_1695 rfl
theorem tw_1696 : (.methodLink "TickPoolsModel" 420 yX12_readsNumbers : Cond) ∈ lw_gt := tw_t tq_1696 rfl
theorem tw_1698 : (.instanceMethod yX12_readsNumbers : Cond) ∈ lw_gt := tw_t tq_1698 rfl
theorem tw_1699 : ((Jvm.Cond.code ({ cls := "TickPoolsModel", name := "readsNumbers", desc := "(IIIII)Z" } : Jvm.MethodName) prog_14_method_81_code (7 : Nat) (Option.some Jvm.ClassFile.FieldType.boolean)) : Cond) ∈ lw_gt := tw_t tq_1699 rfl
theorem tw_1700 : (.methodLink "TickPoolsModel" 424 yX12_readsMuch : Cond) ∈ lw_gt := tw_t tq_1700 rfl
theorem tw_1702 : (.instanceMethod yX12_readsMuch : Cond) ∈ lw_gt := tw_t tq_1702 rfl
theorem tw_1703 : ((Jvm.Cond.code ({ cls := "TickPoolsModel", name := "readsMuch", desc := "(I)Z" } : Jvm.MethodName) prog_14_method_82_code (4 : Nat) (Option.some Jvm.ClassFile.FieldType.boolean)) : Cond) ∈ lw_gt := tw_t tq_1703 rfl
theorem tw_1704 : (.constant "TickPoolsModel" 427 99999 : Cond) ∈ lw_gt := tw_t tq_1704 rfl
theorem tw_1705 : (.methodLink "TickPoolsModel" 428 yX12_opens : Cond) ∈ lw_gt := tw_t tq_1705 rfl
theorem tw_1707 : (.instanceMethod yX12_opens : Cond) ∈ lw_gt := tw_t tq_1707 rfl
theorem tw_1708 : ((Jvm.Cond.code ({ cls := "TickPoolsModel", name := "opens", desc := "(I)Z" } : Jvm.MethodName) prog_14_method_83_code (2 : Nat) (Option.some Jvm.ClassFile.FieldType.boolean)) : Cond) ∈ lw_gt := tw_t tq_1708 rfl
theorem tw_1709 : (.methodLink "TickPoolsModel" 434 yX12_goesOn : Cond) ∈ lw_gt := tw_t tq_1709 rfl
theorem tw_1711 : (.instanceMethod yX12_goesOn : Cond) ∈ lw_gt := tw_t tq_1711 rfl
theorem tw_1712 : ((Jvm.Cond.code ({ cls := "TickPoolsModel", name := "goesOn", desc := "()I" } : Jvm.MethodName) prog_14_method_85_code (1 : Nat) (Option.some Jvm.ClassFile.FieldType.int)) : Cond) ∈ lw_gt := tw_t tq_1712 rfl
theorem tw_1713 : (.methodLink "TickPoolsModel" 500 yX12_doesAll : Cond) ∈ lw_gt := tw_t tq_1713 rfl
theorem tw_1715 : (.instanceMethod yX12_doesAll : Cond) ∈ lw_gt := tw_t tq_1715 rfl
theorem tw_1716 : ((Jvm.Cond.code ({ cls := "TickPoolsModel", name := "doesAll", desc := "()Z" } : Jvm.MethodName) prog_14_method_98_code (2 : Nat) (Option.some Jvm.ClassFile.FieldType.boolean)) : Cond) ∈ lw_gt := tw_t tq_1716 rfl
theorem tw_1717 : (.methodLink "TickPoolsModel" 491 yX12_comesOut : Cond) ∈ lw_gt := tw_t tq_1717 rfl
theorem tw_1719 : (.instanceMethod yX12_comesOut : Cond) ∈ lw_gt := tw_t tq_1719 rfl
theorem tw_1720 : ((Jvm.Cond.code ({ cls := "TickPoolsModel", name := "comesOut", desc := "()I" } : Jvm.MethodName) prog_14_method_96_code (2 : Nat) (Option.some Jvm.ClassFile.FieldType.int)) : Cond) ∈ lw_gt := tw_t tq_1720 rfl
theorem tw_1721 : (.methodLink "TickPoolsModel" 478 yX12_givesBack : Cond) ∈ lw_gt := tw_t tq_1721 rfl
theorem tw_1723 : (.instanceMethod yX12_givesBack : Cond) ∈ lw_gt := tw_t tq_1723 rfl
theorem tw_1724 : ((Jvm.Cond.code ({ cls := "TickPoolsModel", name := "givesBack", desc := "(IJ)Z" } : Jvm.MethodName) prog_14_method_94_code (8 : Nat) (Option.some Jvm.ClassFile.FieldType.boolean)) : Cond) ∈ lw_gt := tw_t tq_1724 rfl
theorem tw_1725 : (.methodLink "TickPoolsModel" 449 yX12_stops : Cond) ∈ lw_gt := tw_t tq_1725 rfl
theorem tw_1727 : (.instanceMethod yX12_stops : Cond) ∈ lw_gt := tw_t tq_1727 rfl
theorem tw_1728 : ((Jvm.Cond.code ({ cls := "TickPoolsModel", name := "stops", desc := "(II)Z" } : Jvm.MethodName) prog_14_method_88_code (3 : Nat) (Option.some Jvm.ClassFile.FieldType.boolean)) : Cond) ∈ lw_gt := tw_t tq_1728 rfl
theorem tw_1729 : (.methodLink "TickPoolsModel" 494 yX12_goesFrom : Cond) ∈ lw_gt := tw_t tq_1729 rfl
theorem tw_1731 : (.instanceMethod yX12_goesFrom : Cond) ∈ lw_gt := tw_t tq_1731 rfl
theorem tw_1732 : ((Jvm.Cond.code ({ cls := "TickPoolsModel", name := "goesFrom", desc := "(I)I" } : Jvm.MethodName) prog_14_method_97_code (2 : Nat) (Option.some Jvm.ClassFile.FieldType.int)) : Cond) ∈ lw_gt := tw_t tq_1732 rfl
theorem tw_1733 : (.methodLink "TickPoolsModel" 485 yX12_lends : Cond) ∈ lw_gt := tw_t tq_1733 rfl
theorem tw_1735 : (.instanceMethod yX12_lends : Cond) ∈ lw_gt := tw_t tq_1735 rfl
theorem tw_1736 : ((Jvm.Cond.code ({ cls := "TickPoolsModel", name := "lends", desc := "(I)Z" } : Jvm.MethodName) prog_14_method_93_code (6 : Nat) (Option.some Jvm.ClassFile.FieldType.boolean)) : Cond) ∈ lw_gt := tw_t tq_1736 rfl
theorem tw_1737 : (.methodLink "TickPoolsModel" 446 yX12_isOpen : Cond) ∈ lw_gt := tw_t tq_1737 rfl
theorem tw_1739 : (.instanceMethod yX12_isOpen : Cond) ∈ lw_gt := tw_t tq_1739 rfl
theorem tw_1740 : ((Jvm.Cond.code ({ cls := "TickPoolsModel", name := "isOpen", desc := "(I)Z" } : Jvm.MethodName) prog_14_method_87_code (2 : Nat) (Option.some Jvm.ClassFile.FieldType.boolean)) : Cond) ∈ lw_gt := tw_t tq_1740 rfl
theorem tw_1741 : (.methodLink "TickPoolsModel" 452 yX12_muchOf : Cond) ∈ lw_gt := tw_t tq_1741 rfl
theorem tw_1743 : (.instanceMethod yX12_muchOf : Cond) ∈ lw_gt := tw_t tq_1743 rfl
theorem tw_1744 : ((Jvm.Cond.code ({ cls := "TickPoolsModel", name := "muchOf", desc := "(I)J" } : Jvm.MethodName) prog_14_method_89_code (4 : Nat) (Option.some Jvm.ClassFile.FieldType.long)) : Cond) ∈ lw_gt := tw_t tq_1744 rfl
theorem tw_1745 : (.methodLink "TickPoolsModel" 466 yX12_goesInto : Cond) ∈ lw_gt := tw_t tq_1745 rfl
theorem tw_1747 : (.instanceMethod yX12_goesInto : Cond) ∈ lw_gt := tw_t tq_1747 rfl
theorem tw_1748 : ((Jvm.Cond.code ({ cls := "TickPoolsModel", name := "goesInto", desc := "(IIJ)V" } : Jvm.MethodName) prog_14_method_92_code (5 : Nat) (Option.none : Option Jvm.ClassFile.FieldType)) : Cond) ∈ lw_gt := tw_t tq_1748 rfl
theorem tw_1749 : (.methodLink "TickPoolsModel" 488 yX12_doesOne : Cond) ∈ lw_gt := tw_t tq_1749 rfl
theorem tw_1751 : (.instanceMethod yX12_doesOne : Cond) ∈ lw_gt := tw_t tq_1751 rfl
theorem tw_1752 : ((Jvm.Cond.code ({ cls := "TickPoolsModel", name := "doesOne", desc := "(I)Z" } : Jvm.MethodName) prog_14_method_95_code (3 : Nat) (Option.some Jvm.ClassFile.FieldType.boolean)) : Cond) ∈ lw_gt := tw_t tq_1752 rfl
theorem tw_1753 : (.methodLink "TickPoolsModel" 469 yX12_swapsOne : Cond) ∈ lw_gt := tw_t tq_1753 rfl
theorem tw_1755 : (.instanceMethod yX12_swapsOne : Cond) ∈ lw_gt := tw_t tq_1755 rfl
theorem tw_1756 : ((Jvm.Cond.code ({ cls := "TickPoolsModel", name := "swapsOne", desc := "(I)Z" } : Jvm.MethodName) prog_14_method_90_code (6 : Nat) (Option.some Jvm.ClassFile.FieldType.boolean)) : Cond) ∈ lw_gt := tw_t tq_1756 rfl
theorem tw_1757 : (.constantLong "TickPoolsModel" 455 2147483647 : Cond) ∈ lw_gt := tw_t tq_1757 rfl
theorem tw_1758 : (.methodLink "TickPoolsModel" 457 yX12_in : Cond) ∈ lw_gt := tw_t tq_1758 rfl
theorem tw_1759 : (.methodLink "TickPoolsModel" 460 yX12_out : Cond) ∈ lw_gt := tw_t tq_1759 rfl
theorem tw_1760 : (.methodLink "TickPoolsModel" 472 yX12_dropsOne : Cond) ∈ lw_gt := tw_t tq_1760 rfl
theorem tw_1762 : (.instanceMethod yX12_dropsOne : Cond) ∈ lw_gt := tw_t tq_1762 rfl
theorem tw_1763 : ((Jvm.Cond.code ({ cls := "TickPoolsModel", name := "dropsOne", desc := "(I)Z" } : Jvm.MethodName) prog_14_method_91_code (4 : Nat) (Option.some Jvm.ClassFile.FieldType.boolean)) : Cond) ∈ lw_gt := tw_t tq_1763 rfl
theorem tw_1764 : (.methodLink "TickPoolsModel" 475 yX12_isThing : Cond) ∈ lw_gt := tw_t tq_1764 rfl
theorem tw_1766 : (.instanceMethod yX12_isThing : Cond) ∈ lw_gt := tw_t tq_1766 rfl
theorem tw_1767 : ((Jvm.Cond.code ({ cls := "TickPoolsModel", name := "isThing", desc := "(I)Z" } : Jvm.MethodName) prog_14_method_21_code (2 : Nat) (Option.some Jvm.ClassFile.FieldType.boolean)) : Cond) ∈ lw_gt := tw_t tq_1767 rfl
theorem tw_1768 : (.methodLink "TickPoolsLaw" 35 yX12_root : Cond) ∈ lw_gt := tw_t tq_1768 rfl
theorem tw_1769 : (.instanceMethod yX12_root : Cond) ∈ lw_gt := tw_t tq_1769 rfl
theorem tw_1770 : (.selects "TickPoolsModel" yX12_root yX12_root : Cond) ∈ lw_gt := tw_t tq_1770 rfl
theorem tw_1771 : ((Jvm.Cond.code ({ cls := "TickPoolsModel", name := "root", desc := "(I)I" } : Jvm.MethodName) prog_14_method_100_code (2 : Nat) (Option.some Jvm.ClassFile.FieldType.int)) : Cond) ∈ lw_gt := tw_t tq_1771 rfl
theorem tw_1772 : (.methodLink "TickPoolsLaw" 40 yX12_purse : Cond) ∈ lw_gt := tw_t tq_1772 rfl
theorem tw_1773 : (.instanceMethod yX12_purse : Cond) ∈ lw_gt := tw_t tq_1773 rfl
theorem tw_1774 : (.selects "TickPoolsModel" yX12_purse yX12_purse : Cond) ∈ lw_gt := tw_t tq_1774 rfl
theorem tw_1775 : ((Jvm.Cond.code ({ cls := "TickPoolsModel", name := "purse", desc := "(II)I" } : Jvm.MethodName) prog_14_method_101_code (3 : Nat) (Option.some Jvm.ClassFile.FieldType.int)) : Cond) ∈ lw_gt := tw_t tq_1775 rfl
theorem tw_1776 : (.methodLink "TickPoolsLaw" 44 yX12_pool : Cond) ∈ lw_gt := tw_t tq_1776 rfl
theorem tw_1777 : (.instanceMethod yX12_pool : Cond) ∈ lw_gt := tw_t tq_1777 rfl
theorem tw_1778 : (.selects "TickPoolsModel" yX12_pool yX12_pool : Cond) ∈ lw_gt := tw_t tq_1778 rfl
theorem tw_1779 : ((Jvm.Cond.code ({ cls := "TickPoolsModel", name := "pool", desc := "(II)I" } : Jvm.MethodName) prog_14_method_103_code (3 : Nat) (Option.some Jvm.ClassFile.FieldType.int)) : Cond) ∈ lw_gt := tw_t tq_1779 rfl
theorem tw_1780 : (.constantLong "TickPoolsModel" 503 13 : Cond) ∈ lw_gt := tw_t tq_1780 rfl
theorem tw_1781 : (.methodLink "TickPoolsModel" 505 yX12_overIn : Cond) ∈ lw_gt := tw_t tq_1781 rfl
theorem tw_1783 : (.instanceMethod yX12_overIn : Cond) ∈ lw_gt := tw_t tq_1783 rfl
theorem tw_1784 : ((Jvm.Cond.code ({ cls := "TickPoolsModel", name := "overIn", desc := "(II)J" } : Jvm.MethodName) prog_14_method_102_code (6 : Nat) (Option.some Jvm.ClassFile.FieldType.long)) : Cond) ∈ lw_gt := tw_t tq_1784 rfl
theorem tw_1785 : (.methodLink "TickPoolsLaw" 48 yX12_depth : Cond) ∈ lw_gt := tw_t tq_1785 rfl
theorem tw_1786 : (.instanceMethod yX12_depth : Cond) ∈ lw_gt := tw_t tq_1786 rfl
theorem tw_1787 : (.selects "TickPoolsModel" yX12_depth yX12_depth : Cond) ∈ lw_gt := tw_t tq_1787 rfl
theorem tw_1788 : ((Jvm.Cond.code ({ cls := "TickPoolsModel", name := "depth", desc := "(II)I" } : Jvm.MethodName) prog_14_method_104_code (3 : Nat) (Option.some Jvm.ClassFile.FieldType.int)) : Cond) ∈ lw_gt := tw_t tq_1788 rfl
theorem tw_1789 : (.constantLong "TickPoolsModel" 508 39 : Cond) ∈ lw_gt := tw_t tq_1789 rfl
theorem tw_1790 : (.methodLink "TickPoolsLaw" 52 yX12_stake : Cond) ∈ lw_gt := tw_t tq_1790 rfl
theorem tw_1791 : (.instanceMethod yX12_stake : Cond) ∈ lw_gt := tw_t tq_1791 rfl
theorem tw_1792 : (.selects "TickPoolsModel" yX12_stake yX12_stake : Cond) ∈ lw_gt := tw_t tq_1792 rfl
theorem tw_1793 : ((Jvm.Cond.code ({ cls := "TickPoolsModel", name := "stake", desc := "(II)I" } : Jvm.MethodName) prog_14_method_105_code (4 : Nat) (Option.some Jvm.ClassFile.FieldType.int)) : Cond) ∈ lw_gt := tw_t tq_1793 rfl
theorem tw_1794 : (.methodLink "TickPoolsLaw" 90 yX12_quoteIn : Cond) ∈ lw_gt := tw_t tq_1794 rfl
theorem tw_1795 : (.instanceMethod yX12_quoteIn : Cond) ∈ lw_gt := tw_t tq_1795 rfl
theorem tw_1796 : (.selects "TickPoolsModel" yX12_quoteIn yX12_quoteIn : Cond) ∈ lw_gt := tw_t tq_1796 rfl
theorem tw_1797 : ((Jvm.Cond.code ({ cls := "TickPoolsModel", name := "quoteIn", desc := "(IIIII)I" } : Jvm.MethodName) prog_14_method_106_code (7 : Nat) (Option.some Jvm.ClassFile.FieldType.int)) : Cond) ∈ lw_gt := tw_t tq_1797 rfl
theorem tw_1798 : (.constantLong "TickPoolsModel" 510 4 : Cond) ∈ lw_gt := tw_t tq_1798 rfl
theorem tw_1799 : (.methodLink "TickPoolsLaw" 94 yX12_quoteOut : Cond) ∈ lw_gt := tw_t tq_1799 rfl
theorem tw_1800 : (.instanceMethod yX12_quoteOut : Cond) ∈ lw_gt := tw_t tq_1800 rfl
theorem tw_1801 : (.selects "TickPoolsModel" yX12_quoteOut yX12_quoteOut : Cond) ∈ lw_gt := tw_t tq_1801 rfl
theorem tw_1802 : ((Jvm.Cond.code ({ cls := "TickPoolsModel", name := "quoteOut", desc := "(IIII)I" } : Jvm.MethodName) prog_14_method_107_code (6 : Nat) (Option.some Jvm.ClassFile.FieldType.int)) : Cond) ∈ lw_gt := tw_t tq_1802 rfl
theorem tw_1803 : (.constantLong "TickPoolsModel" 512 3 : Cond) ∈ lw_gt := tw_t tq_1803 rfl
theorem tw_1804 : (.methodLink "TickPoolsLaw" 99 yX12_round : Cond) ∈ lw_gt := tw_t tq_1804 rfl
theorem tw_1805 : (.instanceMethod yX12_round : Cond) ∈ lw_gt := tw_t tq_1805 rfl
theorem tw_1806 : (.selects "TickPoolsModel" yX12_round yX12_round : Cond) ∈ lw_gt := tw_t tq_1806 rfl
theorem tw_1807 : ((Jvm.Cond.code ({ cls := "TickPoolsModel", name := "round", desc := "(III)I" } : Jvm.MethodName) prog_14_method_108_code (6 : Nat) (Option.some Jvm.ClassFile.FieldType.int)) : Cond) ∈ lw_gt := tw_t tq_1807 rfl
theorem tw_1808 : (.methodLink "TickPoolsLaw" 103 yX12_least : Cond) ∈ lw_gt := tw_t tq_1808 rfl
theorem tw_1809 : (.instanceMethod yX12_least : Cond) ∈ lw_gt := tw_t tq_1809 rfl
theorem tw_1810 : (.selects "TickPoolsModel" yX12_least yX12_least : Cond) ∈ lw_gt := tw_t tq_1810 rfl
theorem tw_1811 : ((Jvm.Cond.code ({ cls := "TickPoolsModel", name := "least", desc := "(III)I" } : Jvm.MethodName) prog_14_method_113_code (6 : Nat) (Option.some Jvm.ClassFile.FieldType.int)) : Cond) ∈ lw_gt := tw_t tq_1811 rfl
theorem tw_1812 : (.methodLink "TickPoolsModel" 527 yX12_leastTo : Cond) ∈ lw_gt := tw_t tq_1812 rfl
theorem tw_1814 : (.instanceMethod yX12_leastTo : Cond) ∈ lw_gt := tw_t tq_1814 rfl
theorem tw_1815 : ((Jvm.Cond.code ({ cls := "TickPoolsModel", name := "leastTo", desc := "(III)J" } : Jvm.MethodName) prog_14_method_112_code (15 : Nat) (Option.some Jvm.ClassFile.FieldType.long)) : Cond) ∈ lw_gt := tw_t tq_1815 rfl
theorem tw_1816 : (.methodLink "TickPoolsModel" 521 yX12_leastWithin : Cond) ∈ lw_gt := tw_t tq_1816 rfl
theorem tw_1818 : (.instanceMethod yX12_leastWithin : Cond) ∈ lw_gt := tw_t tq_1818 rfl
theorem tw_1819 : ((Jvm.Cond.code ({ cls := "TickPoolsModel", name := "leastWithin", desc := "(IIIIJ)J" } : Jvm.MethodName) prog_14_method_111_code (13 : Nat) (Option.some Jvm.ClassFile.FieldType.long)) : Cond) ∈ lw_gt := tw_t tq_1819 rfl
theorem tw_1820 : (.methodLink "TickPoolsModel" 514 yX12_zoneWithin : Cond) ∈ lw_gt := tw_t tq_1820 rfl
theorem tw_1822 : (.instanceMethod yX12_zoneWithin : Cond) ∈ lw_gt := tw_t tq_1822 rfl
theorem tw_1823 : ((Jvm.Cond.code ({ cls := "TickPoolsModel", name := "zoneWithin", desc := "(IIIJ)I" } : Jvm.MethodName) prog_14_method_110_code (6 : Nat) (Option.some Jvm.ClassFile.FieldType.int)) : Cond) ∈ lw_gt := tw_t tq_1823 rfl
theorem tw_1824 : (.methodLink "TickPoolsModel" 518 yX12_isThere : Cond) ∈ lw_gt := tw_t tq_1824 rfl
theorem tw_1825 : (.static yX12_isThere : Cond) ∈ lw_gt := tw_t tq_1825 rfl
theorem tw_1826 : ((Jvm.Cond.code ({ cls := "TickPoolsModel", name := "isThere", desc := "(III)Z" } : Jvm.MethodName) prog_14_method_109_code (3 : Nat) (Option.some Jvm.ClassFile.FieldType.boolean)) : Cond) ∈ lw_gt := tw_t tq_1826 rfl
theorem tw_1827 : (.constantLong "TickPoolsModel" 525 10000000 : Cond) ∈ lw_gt := tw_t tq_1827 rfl
theorem tw_1828 : (.methodLink "TickPoolsLaw" 107 yX12_route : Cond) ∈ lw_gt := tw_t tq_1828 rfl
theorem tw_1829 : (.instanceMethod yX12_route : Cond) ∈ lw_gt := tw_t tq_1829 rfl
theorem tw_1830 : (.selects "TickPoolsModel" yX12_route yX12_route : Cond) ∈ lw_gt := tw_t tq_1830 rfl
theorem tw_1831 : ((Jvm.Cond.code ({ cls := "TickPoolsModel", name := "route", desc := "(IIII)I" } : Jvm.MethodName) prog_14_method_120_code (5 : Nat) (Option.some Jvm.ClassFile.FieldType.int)) : Cond) ∈ lw_gt := tw_t tq_1831 rfl
theorem tw_1832 : (.methodLink "TickPoolsModel" 549 yX12_isWay : Cond) ∈ lw_gt := tw_t tq_1832 rfl
theorem tw_1834 : (.instanceMethod yX12_isWay : Cond) ∈ lw_gt := tw_t tq_1834 rfl
theorem tw_1835 : ((Jvm.Cond.code ({ cls := "TickPoolsModel", name := "isWay", desc := "(III)Z" } : Jvm.MethodName) prog_14_method_119_code (4 : Nat) (Option.some Jvm.ClassFile.FieldType.boolean)) : Cond) ∈ lw_gt := tw_t tq_1835 rfl
theorem tw_1836 : (.methodLink "TickPoolsModel" 552 yX12_routes : Cond) ∈ lw_gt := tw_t tq_1836 rfl
theorem tw_1838 : (.instanceMethod yX12_routes : Cond) ∈ lw_gt := tw_t tq_1838 rfl
theorem tw_1839 : ((Jvm.Cond.code ({ cls := "TickPoolsModel", name := "routes", desc := "(IIJ)V" } : Jvm.MethodName) prog_14_method_118_code (8 : Nat) (Option.none : Option Jvm.ClassFile.FieldType)) : Cond) ∈ lw_gt := tw_t tq_1839 rfl
theorem tw_1840 : (.methodLink "TickPoolsModel" 545 yX12_along : Cond) ∈ lw_gt := tw_t tq_1840 rfl
theorem tw_1842 : (.instanceMethod yX12_along : Cond) ∈ lw_gt := tw_t tq_1842 rfl
theorem tw_1843 : ((Jvm.Cond.code ({ cls := "TickPoolsModel", name := "along", desc := "(IIIJ)J" } : Jvm.MethodName) prog_14_method_117_code (15 : Nat) (Option.some Jvm.ClassFile.FieldType.long)) : Cond) ∈ lw_gt := tw_t tq_1843 rfl
theorem tw_1844 : (.methodLink "TickPoolsModel" 530 yX12_lengthOf : Cond) ∈ lw_gt := tw_t tq_1844 rfl
theorem tw_1845 : (.static yX12_lengthOf : Cond) ∈ lw_gt := tw_t tq_1845 rfl
theorem tw_1846 : ((Jvm.Cond.code ({ cls := "TickPoolsModel", name := "lengthOf", desc := "(I)I" } : Jvm.MethodName) prog_14_method_114_code (1 : Nat) (Option.some Jvm.ClassFile.FieldType.int)) : Cond) ∈ lw_gt := tw_t tq_1846 rfl
theorem tw_1847 : (.methodLink "TickPoolsModel" 533 yX12_poolIn : Cond) ∈ lw_gt := tw_t tq_1847 rfl
theorem tw_1848 : (.static yX12_poolIn : Cond) ∈ lw_gt := tw_t tq_1848 rfl
theorem tw_1849 : ((Jvm.Cond.code ({ cls := "TickPoolsModel", name := "poolIn", desc := "(II)I" } : Jvm.MethodName) prog_14_method_115_code (4 : Nat) (Option.some Jvm.ClassFile.FieldType.int)) : Cond) ∈ lw_gt := tw_t tq_1849 rfl
theorem tw_1850 : (.methodLink "TickPoolsModel" 536 yX12_hop : Cond) ∈ lw_gt := tw_t tq_1850 rfl
theorem tw_1852 : (.instanceMethod yX12_hop : Cond) ∈ lw_gt := tw_t tq_1852 rfl
theorem tw_1853 : ((Jvm.Cond.code ({ cls := "TickPoolsModel", name := "hop", desc := "(IIJ)J" } : Jvm.MethodName) prog_14_method_116_code (5 : Nat) (Option.some Jvm.ClassFile.FieldType.long)) : Cond) ∈ lw_gt := tw_t tq_1853 rfl
theorem tw_1854 : (.methodLink "TickPoolsLaw" 111 yX12_parts : Cond) ∈ lw_gt := tw_t tq_1854 rfl
theorem tw_1855 : (.instanceMethod yX12_parts : Cond) ∈ lw_gt := tw_t tq_1855 rfl
theorem tw_1856 : (.selects "TickPoolsModel" yX12_parts yX12_parts : Cond) ∈ lw_gt := tw_t tq_1856 rfl
theorem tw_1857 : ((Jvm.Cond.code ({ cls := "TickPoolsModel", name := "parts", desc := "(IIII)I" } : Jvm.MethodName) prog_14_method_123_code (6 : Nat) (Option.some Jvm.ClassFile.FieldType.int)) : Cond) ∈ lw_gt := tw_t tq_1857 rfl
theorem tw_1858 : (.methodLink "TickPoolsModel" 564 yX12_goesByParts : Cond) ∈ lw_gt := tw_t tq_1858 rfl
theorem tw_1860 : (.instanceMethod yX12_goesByParts : Cond) ∈ lw_gt := tw_t tq_1860 rfl
theorem tw_1861 : ((Jvm.Cond.code ({ cls := "TickPoolsModel", name := "goesByParts", desc := "(IIJ)Z" } : Jvm.MethodName) prog_14_method_122_code (9 : Nat) (Option.some Jvm.ClassFile.FieldType.boolean)) : Cond) ∈ lw_gt := tw_t tq_1861 rfl
theorem tw_1862 : (.methodLink "TickPoolsModel" 561 yX12_goesAlong : Cond) ∈ lw_gt := tw_t tq_1862 rfl
theorem tw_1864 : (.instanceMethod yX12_goesAlong : Cond) ∈ lw_gt := tw_t tq_1864 rfl
theorem tw_1865 : ((Jvm.Cond.code ({ cls := "TickPoolsModel", name := "goesAlong", desc := "(IIJ)V" } : Jvm.MethodName) prog_14_method_121_code (11 : Nat) (Option.none : Option Jvm.ClassFile.FieldType)) : Cond) ∈ lw_gt := tw_t tq_1865 rfl
theorem tw_1866 : (.methodLink "TickPoolsLaw" 115 yX12_ring : Cond) ∈ lw_gt := tw_t tq_1866 rfl
theorem tw_1867 : (.instanceMethod yX12_ring : Cond) ∈ lw_gt := tw_t tq_1867 rfl
theorem tw_1868 : (.selects "TickPoolsModel" yX12_ring yX12_ring : Cond) ∈ lw_gt := tw_t tq_1868 rfl
theorem tw_1869 : ((Jvm.Cond.code ({ cls := "TickPoolsModel", name := "ring", desc := "(II)I" } : Jvm.MethodName) prog_14_method_124_code (11 : Nat) (Option.some Jvm.ClassFile.FieldType.int)) : Cond) ∈ lw_gt := tw_t tq_1869 rfl
theorem tw_1870 : (.constantLong "TickPoolsModel" 568 5 : Cond) ∈ lw_gt := tw_t tq_1870 rfl
theorem tw_1871 : (.methodLink "TickPoolsLaw" 119 yX12_total : Cond) ∈ lw_gt := tw_t tq_1871 rfl
theorem tw_1872 : (.instanceMethod yX12_total : Cond) ∈ lw_gt := tw_t tq_1872 rfl
theorem tw_1873 : (.selects "TickPoolsModel" yX12_total yX12_total : Cond) ∈ lw_gt := tw_t tq_1873 rfl
theorem tw_1874 : ((Jvm.Cond.code ({ cls := "TickPoolsModel", name := "total", desc := "(I)I" } : Jvm.MethodName) prog_14_method_125_code (6 : Nat) (Option.some Jvm.ClassFile.FieldType.int)) : Cond) ∈ lw_gt := tw_t tq_1874 rfl
theorem tw_1875 : (.methodLink "TickPoolsLaw" 123 yX12_count : Cond) ∈ lw_gt := tw_t tq_1875 rfl
theorem tw_1876 : (.instanceMethod yX12_count : Cond) ∈ lw_gt := tw_t tq_1876 rfl
theorem tw_1877 : (.selects "TickPoolsModel" yX12_count yX12_count : Cond) ∈ lw_gt := tw_t tq_1877 rfl
theorem tw_1878 : ((Jvm.Cond.code ({ cls := "TickPoolsModel", name := "count", desc := "(I)I" } : Jvm.MethodName) prog_14_method_126_code (2 : Nat) (Option.some Jvm.ClassFile.FieldType.int)) : Cond) ∈ lw_gt := tw_t tq_1878 rfl
theorem tw_1879 : (.fieldLink "java/lang/String" 9 "java/lang/String" "value" "[B" : Cond) ∈ lw_gt := tw_t tq_1879 rfl
theorem tw_1880 : (.fieldLink "java/lang/String" 15 "java/lang/String" "coder" "B" : Cond) ∈ lw_gt := tw_t tq_1880 rfl
theorem ts_0 : (.selects "TickPools$MarketReader" yX3_readClause yX3_readClause : Cond) ∈ lw_gt := tw_s mh rfl
theorem ts_1 : (.selects "TickPools$Tape" yX9_byteAt yX9_byteAt : Cond) ∈ lw_gt := tw_s (mt mh) rfl
theorem ts_2 : (.selects "TickPools$MarketReader" yX3_readSizes yX3_readSizes : Cond) ∈ lw_gt := tw_s (mt (mt mh)) rfl
theorem ts_3 : (.selects "TickPools$MarketReader" yX3_readPool yX3_readPool : Cond) ∈ lw_gt := tw_s (mt (mt (mt mh))) rfl
theorem ts_4 : (.selects "TickPools$MarketReader" yX3_readPurse yX3_readPurse : Cond) ∈ lw_gt := tw_s (mt (mt (mt (mt mh)))) rfl
theorem ts_5 : (.selects "TickPools$Script" yX6_readStep yX6_readStep : Cond) ∈ lw_gt := tw_s (mt (mt (mt (mt (mt mh))))) rfl
theorem ts_6 : (.selects "TickPools$Script" yX6_kindOfWord yX6_kindOfWord : Cond) ∈ lw_gt := tw_s (mt (mt (mt (mt (mt (mt mh)))))) rfl
theorem ts_7 : (.selects "TickPools$Script" yX6_readRange yX6_readRange : Cond) ∈ lw_gt := tw_s (mt (mt (mt (mt (mt (mt (mt mh))))))) rfl
theorem ts_8 : (.selects "TickPools$Script" yX6_readAmount yX6_readAmount : Cond) ∈ lw_gt := tw_s (mt (mt (mt (mt (mt (mt (mt (mt mh)))))))) rfl
theorem ts_9 : (.selects "TickPools$Script" yX6_readLeast yX6_readLeast : Cond) ∈ lw_gt := tw_s (m9 mh) rfl
theorem ts_10 : (.selects "TickPools$Script" yX6_readPoolAndSide yX6_readPoolAndSide : Cond) ∈ lw_gt := tw_s (m9 (mt mh)) rfl
theorem ts_11 : (.selects "TickPools$Script" yX6_readMuch yX6_readMuch : Cond) ∈ lw_gt := tw_s (m9 (mt (mt mh))) rfl
theorem ts_12 : (.selects "TickPools$Script" yX6_openBracket yX6_openBracket : Cond) ∈ lw_gt := tw_s (m9 (mt (mt (mt mh)))) rfl
theorem ts_13 : (.selects "TickPools$Script" yX6_closeBrackets yX6_closeBrackets : Cond) ∈ lw_gt := tw_s (m9 (mt (mt (mt (mt mh))))) rfl
theorem ts_14 : (.selects "TickPools$Runner" yX5_closeBracket yX5_closeBracket : Cond) ∈ lw_gt := tw_s (m9 (mt (mt (mt (mt (mt mh)))))) rfl
theorem ts_15 : (.selects "TickPools$Runner" yX5_giveBack yX5_giveBack : Cond) ∈ lw_gt := tw_s (m9 (mt (mt (mt (mt (mt (mt mh))))))) rfl
theorem ts_16 : (.selects "TickPools$Runner" yX5_setLocked yX5_setLocked : Cond) ∈ lw_gt := tw_s (m9 (mt (mt (mt (mt (mt (mt (mt mh)))))))) rfl
theorem ts_17 : (.selects "TickPools$Runner" yX5_fail yX5_fail : Cond) ∈ lw_gt := tw_s (m9 (mt (mt (mt (mt (mt (mt (mt (mt mh))))))))) rfl
theorem ts_18 : (.selects "TickPools$Runner" yX5_doIn yX5_doIn : Cond) ∈ lw_gt := tw_s (m9 (m9 mh)) rfl
theorem ts_19 : (.selects "TickPools$Runner" yX5_isLocked yX5_isLocked : Cond) ∈ lw_gt := tw_s (m9 (m9 (mt mh))) rfl
theorem ts_20 : (.selects "TickPools$Runner" yX5_muchOf yX5_muchOf : Cond) ∈ lw_gt := tw_s (m9 (m9 (mt (mt mh)))) rfl
theorem ts_21 : (.selects "TickPools$Trade" yX10_start yX10_start : Cond) ∈ lw_gt := tw_s (m9 (m9 (mt (mt (mt mh))))) rfl
theorem ts_22 : (.selects "TickPools$Trade" yX10_pourStep yX10_pourStep : Cond) ∈ lw_gt := tw_s (m9 (m9 (mt (mt (mt (mt mh)))))) rfl
theorem ts_23 : (.selects "TickPools$Trade" yX10_aimBefore yX10_aimBefore : Cond) ∈ lw_gt := tw_s (m9 (m9 (mt (mt (mt (mt (mt mh))))))) rfl
theorem ts_24 : (.selects "TickPools$Trade" yX10_takeIn yX10_takeIn : Cond) ∈ lw_gt := tw_s (m9 (m9 (mt (mt (mt (mt (mt (mt mh)))))))) rfl
theorem ts_25 : (.selects "TickPools$Trade" yX10_arrive yX10_arrive : Cond) ∈ lw_gt := tw_s (m9 (m9 (mt (mt (mt (mt (mt (mt (mt mh))))))))) rfl
theorem ts_26 : (.selects "TickPools$Trade" yX10_zoneShortOf yX10_zoneShortOf : Cond) ∈ lw_gt := tw_s (m9 (m9 (mt (mt (mt (mt (mt (mt (mt (mt mh)))))))))) rfl
theorem ts_27 : (.selects "TickPools$Market" yX2_remove yX2_remove : Cond) ∈ lw_gt := tw_s (m81 mh) rfl
theorem ts_28 : (.selects "TickPools$Trade" yX10_finish yX10_finish : Cond) ∈ lw_gt := tw_s (m81 (mt mh)) rfl
theorem ts_29 : (.selects "TickPools$Runner" yX5_doOut yX5_doOut : Cond) ∈ lw_gt := tw_s (m81 (mt (mt mh))) rfl
theorem ts_30 : (.selects "TickPools$Trade" yX10_drainStep yX10_drainStep : Cond) ∈ lw_gt := tw_s (m81 (mt (mt (mt mh)))) rfl
theorem ts_31 : (.selects "TickPools$Runner" yX5_doDrop yX5_doDrop : Cond) ∈ lw_gt := tw_s (m81 (mt (mt (mt (mt mh))))) rfl
theorem ts_32 : (.selects "TickPools$Runner" yX5_doLend yX5_doLend : Cond) ∈ lw_gt := tw_s (m81 (mt (mt (mt (mt (mt mh)))))) rfl
theorem ts_33 : (.selects "TickPools$Runner" yX5_canOpen yX5_canOpen : Cond) ∈ lw_gt := tw_s (m81 (mt (mt (mt (mt (mt (mt mh))))))) rfl
theorem ts_34 : (.selects "TickPools$Runner" yX5_openBracket yX5_openBracket : Cond) ∈ lw_gt := tw_s (m81 (mt (mt (mt (mt (mt (mt (mt mh)))))))) rfl
theorem ts_35 : (.selects "TickPools$Runner" yX5_doTimes yX5_doTimes : Cond) ∈ lw_gt := tw_s (m81 (mt (mt (mt (mt (mt (mt (mt (mt mh))))))))) rfl
theorem ts_36 : (.selects "TickPools" yX11_canAsk yX11_canAsk : Cond) ∈ lw_gt := tw_s (m81 (m9 mh)) rfl
theorem ts_37 : (.selects "TickPools" yX11_comesTo yX11_comesTo : Cond) ∈ lw_gt := tw_s (m81 (m9 (mt mh))) rfl
theorem ts_38 : (.selects "TickPools" yX11_canWander yX11_canWander : Cond) ∈ lw_gt := tw_s (m81 (m9 (mt (mt mh)))) rfl
theorem ts_39 : (.selects "TickPools$Finder" yX1_otherThing yX1_otherThing : Cond) ∈ lw_gt := tw_s (m81 (m9 (mt (mt (mt mh))))) rfl
theorem ts_40 : (.selects "TickPools$Finder" yX1_wasAt yX1_wasAt : Cond) ∈ lw_gt := tw_s (m81 (m9 (mt (mt (mt (mt mh)))))) rfl
theorem ts_41 : (.selects "TickPools$Finder" yX1_trial yX1_trial : Cond) ∈ lw_gt := tw_s (m81 (m9 (mt (mt (mt (mt (mt mh))))))) rfl
theorem ts_42 : (.selects "TickPools$Finder" yX1_consider yX1_consider : Cond) ∈ lw_gt := tw_s (m81 (m9 (mt (mt (mt (mt (mt (mt mh)))))))) rfl
theorem ts_43 : (.selects "TickPoolsModel" yX12_readsAll yX12_readsAll : Cond) ∈ lw_gt := tw_s (m81 (m9 (mt (mt (mt (mt (mt (mt (mt mh))))))))) rfl
theorem ts_44 : (.selects "TickPoolsModel" yX12_readsClause yX12_readsClause : Cond) ∈ lw_gt := tw_s (m81 (m9 (mt (mt (mt (mt (mt (mt (mt (mt mh)))))))))) rfl
theorem ts_45 : (.selects "TickPoolsModel" yX12_wordHere yX12_wordHere : Cond) ∈ lw_gt := tw_s (m81 (m9 (m9 mh))) rfl
theorem ts_46 : (.selects "TickPoolsModel" yX12_next yX12_next : Cond) ∈ lw_gt := tw_s (m81 (m9 (m9 (mt mh)))) rfl
theorem ts_47 : (.selects "TickPoolsModel" yX12_byteAt yX12_byteAt : Cond) ∈ lw_gt := tw_s (m81 (m9 (m9 (mt (mt mh))))) rfl
theorem ts_48 : (.selects "TickPoolsModel" yX12_fails yX12_fails : Cond) ∈ lw_gt := tw_s (m81 (m9 (m9 (mt (mt (mt mh)))))) rfl
theorem ts_49 : (.selects "TickPoolsModel" yX12_readsMarket yX12_readsMarket : Cond) ∈ lw_gt := tw_s (m81 (m9 (m9 (mt (mt (mt (mt mh))))))) rfl
theorem ts_50 : (.selects "TickPoolsModel" yX12_passWord yX12_passWord : Cond) ∈ lw_gt := tw_s (m81 (m9 (m9 (mt (mt (mt (mt (mt mh)))))))) rfl
theorem ts_51 : (.selects "TickPoolsModel" yX12_reads yX12_reads : Cond) ∈ lw_gt := tw_s (m81 (m9 (m9 (mt (mt (mt (mt (mt (mt mh))))))))) rfl
theorem ts_52 : (.selects "TickPoolsModel" yX12_readsPool yX12_readsPool : Cond) ∈ lw_gt := tw_s (m81 (m9 (m9 (mt (mt (mt (mt (mt (mt (mt mh)))))))))) rfl
theorem ts_53 : (.selects "TickPoolsModel" yX12_readsPurse yX12_readsPurse : Cond) ∈ lw_gt := tw_s (m81 (m9 (m9 (mt (mt (mt (mt (mt (mt (mt (mt mh))))))))))) rfl
theorem ts_54 : (.selects "TickPoolsModel" yX12_takesSign yX12_takesSign : Cond) ∈ lw_gt := tw_s (m81 (m81 mh)) rfl
theorem ts_55 : (.selects "TickPoolsModel" yX12_begins yX12_begins : Cond) ∈ lw_gt := tw_s (m81 (m81 (mt mh))) rfl
theorem ts_56 : (.selects "TickPoolsModel" yX12_setPool yX12_setPool : Cond) ∈ lw_gt := tw_s (m81 (m81 (mt (mt mh)))) rfl
theorem ts_57 : (.selects "TickPoolsModel" yX12_zoneOf yX12_zoneOf : Cond) ∈ lw_gt := tw_s (m81 (m81 (mt (mt (mt mh))))) rfl
theorem ts_58 : (.selects "TickPoolsModel" yX12_adds yX12_adds : Cond) ∈ lw_gt := tw_s (m81 (m81 (mt (mt (mt (mt mh)))))) rfl
theorem ts_59 : (.selects "TickPoolsModel" yX12_isPerson yX12_isPerson : Cond) ∈ lw_gt := tw_s (m81 (m81 (mt (mt (mt (mt (mt mh))))))) rfl
theorem ts_60 : (.selects "TickPoolsModel" yX12_isPool yX12_isPool : Cond) ∈ lw_gt := tw_s (m81 (m81 (mt (mt (mt (mt (mt (mt mh)))))))) rfl
theorem ts_61 : (.selects "TickPoolsModel" yX12_areTicks yX12_areTicks : Cond) ∈ lw_gt := tw_s (m81 (m81 (mt (mt (mt (mt (mt (mt (mt mh))))))))) rfl
theorem ts_62 : (.selects "TickPoolsModel" yX12_stakeOf yX12_stakeOf : Cond) ∈ lw_gt := tw_s (m81 (m81 (mt (mt (mt (mt (mt (mt (mt (mt mh)))))))))) rfl
theorem ts_63 : (.selects "TickPoolsModel" yX12_stakes yX12_stakes : Cond) ∈ lw_gt := tw_s (m81 (m81 (m9 mh))) rfl
theorem ts_64 : (.selects "TickPoolsModel" yX12_ofStake yX12_ofStake : Cond) ∈ lw_gt := tw_s (m81 (m81 (m9 (mt mh)))) rfl
theorem ts_65 : (.selects "TickPoolsModel" yX12_liesIn yX12_liesIn : Cond) ∈ lw_gt := tw_s (m81 (m81 (m9 (mt (mt mh))))) rfl
theorem ts_66 : (.selects "TickPoolsModel" yX12_zoneNow yX12_zoneNow : Cond) ∈ lw_gt := tw_s (m81 (m81 (m9 (mt (mt (mt mh)))))) rfl
theorem ts_67 : (.selects "TickPoolsModel" yX12_ofPool yX12_ofPool : Cond) ∈ lw_gt := tw_s (m81 (m81 (m9 (mt (mt (mt (mt mh))))))) rfl
theorem ts_68 : (.selects "TickPoolsModel" yX12_thingOf yX12_thingOf : Cond) ∈ lw_gt := tw_s (m81 (m81 (m9 (mt (mt (mt (mt (mt mh)))))))) rfl
theorem ts_69 : (.selects "TickPoolsModel" yX12_inPurse yX12_inPurse : Cond) ∈ lw_gt := tw_s (m81 (m81 (m9 (mt (mt (mt (mt (mt (mt mh))))))))) rfl
theorem ts_70 : (.selects "TickPoolsModel" yX12_setStake yX12_setStake : Cond) ∈ lw_gt := tw_s (m81 (m81 (m9 (mt (mt (mt (mt (mt (mt (mt mh)))))))))) rfl
theorem ts_71 : (.selects "TickPoolsModel" yX12_settles yX12_settles : Cond) ∈ lw_gt := tw_s (m81 (m81 (m9 (mt (mt (mt (mt (mt (mt (mt (mt mh))))))))))) rfl
theorem ts_72 : (.selects "TickPoolsModel" yX12_owedTo yX12_owedTo : Cond) ∈ lw_gt := tw_s (m81 (m81 (m9 (m9 mh)))) rfl
theorem ts_73 : (.selects "TickPoolsModel" yX12_goesOut yX12_goesOut : Cond) ∈ lw_gt := tw_s (m81 (m81 (m9 (m9 (mt mh))))) rfl
theorem ts_74 : (.selects "TickPoolsModel" yX12_morePool yX12_morePool : Cond) ∈ lw_gt := tw_s (m81 (m81 (m9 (m9 (mt (mt mh)))))) rfl
theorem ts_75 : (.selects "TickPoolsModel" yX12_morePurse yX12_morePurse : Cond) ∈ lw_gt := tw_s (m81 (m81 (m9 (m9 (mt (mt (mt mh))))))) rfl
theorem ts_76 : (.selects "TickPoolsModel" yX12_isStake yX12_isStake : Cond) ∈ lw_gt := tw_s (m81 (m81 (m9 (m9 (mt (mt (mt (mt mh)))))))) rfl
theorem ts_77 : (.selects "TickPoolsModel" yX12_takesOut yX12_takesOut : Cond) ∈ lw_gt := tw_s (m81 (m81 (m9 (m9 (mt (mt (mt (mt (mt mh))))))))) rfl
theorem ts_78 : (.selects "TickPoolsModel" yX12_paysOut yX12_paysOut : Cond) ∈ lw_gt := tw_s (m81 (m81 (m9 (m9 (mt (mt (mt (mt (mt (mt mh)))))))))) rfl
theorem ts_79 : (.selects "TickPoolsModel" yX12_markOf yX12_markOf : Cond) ∈ lw_gt := tw_s (m81 (m81 (m9 (m9 (mt (mt (mt (mt (mt (mt (mt mh))))))))))) rfl
theorem ts_80 : (.selects "TickPoolsModel" yX12_sumAt yX12_sumAt : Cond) ∈ lw_gt := tw_s (m81 (m81 (m9 (m9 (mt (mt (mt (mt (mt (mt (mt (mt mh)))))))))))) rfl
theorem ts_81 : (.selects "TickPoolsModel" yX12_marks yX12_marks : Cond) ∈ lw_gt := tw_s (m81 (m81 (m81 mh))) rfl
theorem ts_82 : (.selects "TickPoolsModel" yX12_marksNow yX12_marksNow : Cond) ∈ lw_gt := tw_s (m81 (m81 (m81 (mt mh)))) rfl
theorem ts_83 : (.selects "TickPoolsModel" yX12_swaps yX12_swaps : Cond) ∈ lw_gt := tw_s (m81 (m81 (m81 (mt (mt mh))))) rfl
theorem ts_84 : (.selects "TickPoolsModel" yX12_steps yX12_steps : Cond) ∈ lw_gt := tw_s (m81 (m81 (m81 (mt (mt (mt mh)))))) rfl
theorem ts_85 : (.selects "TickPoolsModel" yX12_aimOf yX12_aimOf : Cond) ∈ lw_gt := tw_s (m81 (m81 (m81 (mt (mt (mt (mt mh))))))) rfl
theorem ts_86 : (.selects "TickPoolsModel" yX12_depthOf yX12_depthOf : Cond) ∈ lw_gt := tw_s (m81 (m81 (m81 (mt (mt (mt (mt (mt mh)))))))) rfl
theorem ts_87 : (.selects "TickPoolsModel" yX12_isAcross yX12_isAcross : Cond) ∈ lw_gt := tw_s (m81 (m81 (m81 (mt (mt (mt (mt (mt (mt mh))))))))) rfl
theorem ts_88 : (.selects "TickPoolsModel" yX12_feeOf yX12_feeOf : Cond) ∈ lw_gt := tw_s (m81 (m81 (m81 (mt (mt (mt (mt (mt (mt (mt mh)))))))))) rfl
theorem ts_89 : (.selects "TickPoolsModel" yX12_wantedTo yX12_wantedTo : Cond) ∈ lw_gt := tw_s (m81 (m81 (m81 (mt (mt (mt (mt (mt (mt (mt (mt mh))))))))))) rfl
theorem ts_90 : (.selects "TickPoolsModel" yX12_rootByOut yX12_rootByOut : Cond) ∈ lw_gt := tw_s (m81 (m81 (m81 (m9 mh)))) rfl
theorem ts_91 : (.selects "TickPoolsModel" yX12_rootBy yX12_rootBy : Cond) ∈ lw_gt := tw_s (m81 (m81 (m81 (m9 (mt mh))))) rfl
theorem ts_92 : (.selects "TickPoolsModel" yX12_feeUpon yX12_feeUpon : Cond) ∈ lw_gt := tw_s (m81 (m81 (m81 (m9 (mt (mt mh)))))) rfl
theorem ts_93 : (.selects "TickPoolsModel" yX12_shares yX12_shares : Cond) ∈ lw_gt := tw_s (m81 (m81 (m81 (m9 (mt (mt (mt mh))))))) rfl
theorem ts_94 : (.selects "TickPoolsModel" yX12_zoneBy yX12_zoneBy : Cond) ∈ lw_gt := tw_s (m81 (m81 (m81 (m9 (mt (mt (mt (mt mh)))))))) rfl
theorem ts_95 : (.selects "TickPoolsModel" yX12_drops yX12_drops : Cond) ∈ lw_gt := tw_s (m81 (m81 (m81 (m9 (mt (mt (mt (mt (mt mh))))))))) rfl
theorem ts_96 : (.selects "TickPoolsModel" yX12_trades yX12_trades : Cond) ∈ lw_gt := tw_s (m81 (m81 (m81 (m9 (mt (mt (mt (mt (mt (mt mh)))))))))) rfl
theorem ts_97 : (.selects "TickPoolsModel" yX12_keeps yX12_keeps : Cond) ∈ lw_gt := tw_s (m81 (m81 (m81 (m9 (mt (mt (mt (mt (mt (mt (mt mh))))))))))) rfl
theorem ts_98 : (.selects "TickPoolsModel" yX12_laysBack yX12_laysBack : Cond) ∈ lw_gt := tw_s (m81 (m81 (m81 (m9 (mt (mt (mt (mt (mt (mt (mt (mt mh)))))))))))) rfl
theorem ts_99 : (.selects "TickPoolsModel" yX12_readsBundle yX12_readsBundle : Cond) ∈ lw_gt := tw_s (m81 (m81 (m81 (m9 (m9 mh))))) rfl
theorem ts_100 : (.selects "TickPoolsModel" yX12_readsStep yX12_readsStep : Cond) ∈ lw_gt := tw_s (m81 (m81 (m81 (m9 (m9 (mt mh)))))) rfl
theorem ts_101 : (.selects "TickPoolsModel" yX12_readsNumbers yX12_readsNumbers : Cond) ∈ lw_gt := tw_s (m81 (m81 (m81 (m9 (m9 (mt (mt mh))))))) rfl
theorem ts_102 : (.selects "TickPoolsModel" yX12_readsMuch yX12_readsMuch : Cond) ∈ lw_gt := tw_s (m81 (m81 (m81 (m9 (m9 (mt (mt (mt mh)))))))) rfl
theorem ts_103 : (.selects "TickPoolsModel" yX12_opens yX12_opens : Cond) ∈ lw_gt := tw_s (m81 (m81 (m81 (m9 (m9 (mt (mt (mt (mt mh))))))))) rfl
theorem ts_104 : (.selects "TickPoolsModel" yX12_goesOn yX12_goesOn : Cond) ∈ lw_gt := tw_s (m81 (m81 (m81 (m9 (m9 (mt (mt (mt (mt (mt mh)))))))))) rfl
theorem ts_105 : (.selects "TickPoolsModel" yX12_doesAll yX12_doesAll : Cond) ∈ lw_gt := tw_s (m81 (m81 (m81 (m9 (m9 (mt (mt (mt (mt (mt (mt mh))))))))))) rfl
theorem ts_106 : (.selects "TickPoolsModel" yX12_comesOut yX12_comesOut : Cond) ∈ lw_gt := tw_s (m81 (m81 (m81 (m9 (m9 (mt (mt (mt (mt (mt (mt (mt mh)))))))))))) rfl
theorem ts_107 : (.selects "TickPoolsModel" yX12_givesBack yX12_givesBack : Cond) ∈ lw_gt := tw_s (m81 (m81 (m81 (m9 (m9 (mt (mt (mt (mt (mt (mt (mt (mt mh))))))))))))) rfl
theorem ts_108 : (.selects "TickPoolsModel" yX12_stops yX12_stops : Cond) ∈ lw_gt := tw_s (m81 (m81 (m81 (m81 mh)))) rfl
theorem ts_109 : (.selects "TickPoolsModel" yX12_goesFrom yX12_goesFrom : Cond) ∈ lw_gt := tw_s (m81 (m81 (m81 (m81 (mt mh))))) rfl
theorem ts_110 : (.selects "TickPoolsModel" yX12_lends yX12_lends : Cond) ∈ lw_gt := tw_s (m81 (m81 (m81 (m81 (mt (mt mh)))))) rfl
theorem ts_111 : (.selects "TickPoolsModel" yX12_isOpen yX12_isOpen : Cond) ∈ lw_gt := tw_s (m81 (m81 (m81 (m81 (mt (mt (mt mh))))))) rfl
theorem ts_112 : (.selects "TickPoolsModel" yX12_muchOf yX12_muchOf : Cond) ∈ lw_gt := tw_s (m81 (m81 (m81 (m81 (mt (mt (mt (mt mh)))))))) rfl
theorem ts_113 : (.selects "TickPoolsModel" yX12_goesInto yX12_goesInto : Cond) ∈ lw_gt := tw_s (m81 (m81 (m81 (m81 (mt (mt (mt (mt (mt mh))))))))) rfl
theorem ts_114 : (.selects "TickPoolsModel" yX12_doesOne yX12_doesOne : Cond) ∈ lw_gt := tw_s (m81 (m81 (m81 (m81 (mt (mt (mt (mt (mt (mt mh)))))))))) rfl
theorem ts_115 : (.selects "TickPoolsModel" yX12_swapsOne yX12_swapsOne : Cond) ∈ lw_gt := tw_s (m81 (m81 (m81 (m81 (mt (mt (mt (mt (mt (mt (mt mh))))))))))) rfl
theorem ts_116 : (.selects "TickPoolsModel" yX12_dropsOne yX12_dropsOne : Cond) ∈ lw_gt := tw_s (m81 (m81 (m81 (m81 (mt (mt (mt (mt (mt (mt (mt (mt mh)))))))))))) rfl
theorem ts_117 : (.selects "TickPoolsModel" yX12_isThing yX12_isThing : Cond) ∈ lw_gt := tw_s (m81 (m81 (m81 (m81 (m9 mh))))) rfl
theorem ts_118 : (.selects "TickPoolsModel" yX12_overIn yX12_overIn : Cond) ∈ lw_gt := tw_s (m81 (m81 (m81 (m81 (m9 (mt mh)))))) rfl
theorem ts_119 : (.selects "TickPoolsModel" yX12_leastTo yX12_leastTo : Cond) ∈ lw_gt := tw_s (m81 (m81 (m81 (m81 (m9 (mt (mt mh))))))) rfl
theorem ts_120 : (.selects "TickPoolsModel" yX12_leastWithin yX12_leastWithin : Cond) ∈ lw_gt := tw_s (m81 (m81 (m81 (m81 (m9 (mt (mt (mt mh)))))))) rfl
theorem ts_121 : (.selects "TickPoolsModel" yX12_zoneWithin yX12_zoneWithin : Cond) ∈ lw_gt := tw_s (m81 (m81 (m81 (m81 (m9 (mt (mt (mt (mt mh))))))))) rfl
theorem ts_122 : (.selects "TickPoolsModel" yX12_isWay yX12_isWay : Cond) ∈ lw_gt := tw_s (m81 (m81 (m81 (m81 (m9 (mt (mt (mt (mt (mt mh)))))))))) rfl
theorem ts_123 : (.selects "TickPoolsModel" yX12_routes yX12_routes : Cond) ∈ lw_gt := tw_s (m81 (m81 (m81 (m81 (m9 (mt (mt (mt (mt (mt (mt mh))))))))))) rfl
theorem ts_124 : (.selects "TickPoolsModel" yX12_along yX12_along : Cond) ∈ lw_gt := tw_s (m81 (m81 (m81 (m81 (m9 (mt (mt (mt (mt (mt (mt (mt mh)))))))))))) rfl
theorem ts_125 : (.selects "TickPoolsModel" yX12_hop yX12_hop : Cond) ∈ lw_gt := tw_s (m81 (m81 (m81 (m81 (m9 (mt (mt (mt (mt (mt (mt (mt (mt mh))))))))))))) rfl
theorem ts_126 : (.selects "TickPoolsModel" yX12_goesByParts yX12_goesByParts : Cond) ∈ lw_gt := tw_s (m81 (m81 (m81 (m81 (m9 (m9 mh)))))) rfl
theorem ts_127 : (.selects "TickPoolsModel" yX12_goesAlong yX12_goesAlong : Cond) ∈ lw_gt := tw_s (m81 (m81 (m81 (m81 (m9 (m9 (mt mh))))))) rfl
theorem inX1 : ∀ w ∈ u_ws RX1 TX1 9, w ∈ lw_gt := by
  show ∀ w ∈ [(.lays "TickPools$Finder" "TickPools$Finder" "bestGain" "J" : Cond), .lays "TickPools$Finder" "TickPools$Finder" "bestAmount" "I", .lays "TickPools$Finder" "TickPools$Finder" "bestLength" "I", .laysFinal "TickPools$Finder" "TickPools$Finder" "trade" "LTickPools$Trade;", .laysFinal "TickPools$Finder" "TickPools$Finder" "best" "[I", .laysFinal "TickPools$Finder" "TickPools$Finder" "row" "[I", .laysFinal "TickPools$Finder" "TickPools$Finder" "thing" "[I", .laysFinal "TickPools$Finder" "TickPools$Finder" "amount" "[J", .laysFinal "TickPools$Finder" "TickPools$Finder" "next" "[I"], w ∈ lw_gt
  simp only [List.forall_mem_cons]
  exact ⟨tw_441, tw_443, tw_445, tw_447, tw_449, tw_451, tw_453, tw_455, tw_457, fun _ h => absurd h List.not_mem_nil⟩
theorem inX2 : ∀ w ∈ u_ws RX2 TX2 9, w ∈ lw_gt := by
  show ∀ w ∈ [(.lays "TickPools$Market" "TickPools$Market" "things" "I" : Cond), .lays "TickPools$Market" "TickPools$Market" "people" "I", .lays "TickPools$Market" "TickPools$Market" "pools" "I", .lays "TickPools$Market" "TickPools$Market" "stakes" "I", .lays "TickPools$Market" "TickPools$Market" "time" "I", .lays "TickPools$Market" "TickPools$Market" "crossed" "I", .laysFinal "TickPools$Market" "TickPools$Market" "purses" "[I", .laysFinal "TickPools$Market" "TickPools$Market" "poolRow" "[LTickPools$Pool;", .laysFinal "TickPools$Market" "TickPools$Market" "stakeRow" "[LTickPools$Stake;"], w ∈ lw_gt
  simp only [List.forall_mem_cons]
  exact ⟨tw_211, tw_213, tw_215, tw_217, tw_219, tw_221, tw_223, tw_225, tw_227, fun _ h => absurd h List.not_mem_nil⟩
theorem inX3 : ∀ w ∈ u_ws RX3 TX3 2, w ∈ lw_gt := by
  show ∀ w ∈ [(.laysFinal "TickPools$MarketReader" "TickPools$MarketReader" "tape" "LTickPools$Tape;" : Cond), .laysFinal "TickPools$MarketReader" "TickPools$MarketReader" "market" "LTickPools$Market;"], w ∈ lw_gt
  simp only [List.forall_mem_cons]
  exact ⟨tw_297, tw_299, fun _ h => absurd h List.not_mem_nil⟩
theorem inX4 : ∀ w ∈ u_ws RX4 TX4 12, w ∈ lw_gt := by
  show ∀ w ∈ [(.lays "TickPools$Pool" "TickPools$Pool" "first" "I" : Cond), .lays "TickPools$Pool" "TickPools$Pool" "second" "I", .lays "TickPools$Pool" "TickPools$Pool" "fee" "I", .lays "TickPools$Pool" "TickPools$Pool" "cut" "I", .lays "TickPools$Pool" "TickPools$Pool" "spacing" "I", .lays "TickPools$Pool" "TickPools$Pool" "root" "I", .lays "TickPools$Pool" "TickPools$Pool" "zone" "I", .lays "TickPools$Pool" "TickPools$Pool" "marks" "I", .laysFinal "TickPools$Pool" "TickPools$Pool" "held" "[I", .laysFinal "TickPools$Pool" "TickPools$Pool" "house" "[I", .laysFinal "TickPools$Pool" "TickPools$Pool" "markTime" "[I", .laysFinal "TickPools$Pool" "TickPools$Pool" "markSum" "[I"], w ∈ lw_gt
  simp only [List.forall_mem_cons]
  exact ⟨tw_115, tw_117, tw_119, tw_121, tw_123, tw_125, tw_127, tw_129, tw_131, tw_133, tw_135, tw_137, fun _ h => absurd h List.not_mem_nil⟩
theorem inX5 : ∀ w ∈ u_ws RX5 TX5 13, w ∈ lw_gt := by
  show ∀ w ∈ [(.lays "TickPools$Runner" "TickPools$Runner" "done" "I" : Cond), .lays "TickPools$Runner" "TickPools$Runner" "failure" "I", .laysFinal "TickPools$Runner" "TickPools$Runner" "market" "LTickPools$Market;", .laysFinal "TickPools$Runner" "TickPools$Runner" "script" "LTickPools$Script;", .laysFinal "TickPools$Runner" "TickPools$Runner" "trade" "LTickPools$Trade;", .lays "TickPools$Runner" "TickPools$Runner" "person" "I", .lays "TickPools$Runner" "TickPools$Runner" "at" "I", .lays "TickPools$Runner" "TickPools$Runner" "deep" "I", .lays "TickPools$Runner" "TickPools$Runner" "got" "J", .laysFinal "TickPools$Runner" "TickPools$Runner" "open" "[I", .laysFinal "TickPools$Runner" "TickPools$Runner" "rounds" "[I", .laysFinal "TickPools$Runner" "TickPools$Runner" "lent" "[I", .laysFinal "TickPools$Runner" "TickPools$Runner" "locked" "[Z"], w ∈ lw_gt
  simp only [List.forall_mem_cons]
  exact ⟨tw_395, tw_397, tw_399, tw_401, tw_403, tw_405, tw_407, tw_409, tw_411, tw_413, tw_415, tw_417, tw_419, fun _ h => absurd h List.not_mem_nil⟩
theorem inX6 : ∀ w ∈ u_ws RX6 TX6 5, w ∈ lw_gt := by
  show ∀ w ∈ [(.lays "TickPools$Script" "TickPools$Script" "size" "I" : Cond), .laysFinal "TickPools$Script" "TickPools$Script" "tape" "LTickPools$Tape;", .laysFinal "TickPools$Script" "TickPools$Script" "steps" "[LTickPools$Step;", .laysFinal "TickPools$Script" "TickPools$Script" "open" "[I", .lays "TickPools$Script" "TickPools$Script" "deep" "I"], w ∈ lw_gt
  simp only [List.forall_mem_cons]
  exact ⟨tw_363, tw_365, tw_367, tw_369, tw_371, fun _ h => absurd h List.not_mem_nil⟩
theorem inX7 : ∀ w ∈ u_ws RX7 TX7 8, w ∈ lw_gt := by
  show ∀ w ∈ [(.lays "TickPools$Stake" "TickPools$Stake" "person" "I" : Cond), .lays "TickPools$Stake" "TickPools$Stake" "pool" "I", .lays "TickPools$Stake" "TickPools$Stake" "low" "I", .lays "TickPools$Stake" "TickPools$Stake" "high" "I", .lays "TickPools$Stake" "TickPools$Stake" "auto" "I", .lays "TickPools$Stake" "TickPools$Stake" "liquidity" "I", .laysFinal "TickPools$Stake" "TickPools$Stake" "gain" "[J", .laysFinal "TickPools$Stake" "TickPools$Stake" "debt" "[J"], w ∈ lw_gt
  simp only [List.forall_mem_cons]
  exact ⟨tw_172, tw_174, tw_176, tw_178, tw_180, tw_182, tw_184, tw_186, fun _ h => absurd h List.not_mem_nil⟩
theorem inX8 : ∀ w ∈ u_ws RX8 TX8 10, w ∈ lw_gt := by
  show ∀ w ∈ [(.lays "TickPools$Step" "TickPools$Step" "kind" "I" : Cond), .lays "TickPools$Step" "TickPools$Step" "place" "I", .lays "TickPools$Step" "TickPools$Step" "pool" "I", .lays "TickPools$Step" "TickPools$Step" "side" "I", .lays "TickPools$Step" "TickPools$Step" "low" "I", .lays "TickPools$Step" "TickPools$Step" "high" "I", .lays "TickPools$Step" "TickPools$Step" "thing" "I", .lays "TickPools$Step" "TickPools$Step" "amount" "I", .lays "TickPools$Step" "TickPools$Step" "much" "I", .lays "TickPools$Step" "TickPools$Step" "after" "I"], w ∈ lw_gt
  simp only [List.forall_mem_cons]
  exact ⟨tw_336, tw_338, tw_340, tw_342, tw_344, tw_346, tw_348, tw_350, tw_352, tw_354, fun _ h => absurd h List.not_mem_nil⟩
theorem inX9 : ∀ w ∈ u_ws RX9 TX9 7, w ∈ lw_gt := by
  show ∀ w ∈ [(.lays "TickPools$Tape" "TickPools$Tape" "length" "I" : Cond), .lays "TickPools$Tape" "TickPools$Tape" "fault" "I", .lays "TickPools$Tape" "TickPools$Tape" "value" "I", .lays "TickPools$Tape" "TickPools$Tape" "wordStart" "I", .lays "TickPools$Tape" "TickPools$Tape" "wordEnd" "I", .lays "TickPools$Tape" "TickPools$Tape" "at" "I", .laysFinal "TickPools$Tape" "TickPools$Tape" "bytes" "[B"], w ∈ lw_gt
  simp only [List.forall_mem_cons]
  exact ⟨tw_45, tw_47, tw_49, tw_51, tw_53, tw_55, tw_57, fun _ h => absurd h List.not_mem_nil⟩
theorem inX10 : ∀ w ∈ u_ws RX10 TX10 14, w ∈ lw_gt := by
  show ∀ w ∈ [(.lays "TickPools$Trade" "TickPools$Trade" "market" "LTickPools$Market;" : Cond), .lays "TickPools$Trade" "TickPools$Trade" "pool" "LTickPools$Pool;", .lays "TickPools$Trade" "TickPools$Trade" "poolNumber" "I", .lays "TickPools$Trade" "TickPools$Trade" "side" "I", .lays "TickPools$Trade" "TickPools$Trade" "real" "Z", .lays "TickPools$Trade" "TickPools$Trade" "root" "I", .lays "TickPools$Trade" "TickPools$Trade" "atEnd" "Z", .lays "TickPools$Trade" "TickPools$Trade" "crossedTick" "I", .lays "TickPools$Trade" "TickPools$Trade" "zone" "I", .lays "TickPools$Trade" "TickPools$Trade" "crossed" "I", .lays "TickPools$Trade" "TickPools$Trade" "left" "J", .lays "TickPools$Trade" "TickPools$Trade" "gave" "J", .lays "TickPools$Trade" "TickPools$Trade" "paid" "J", .lays "TickPools$Trade" "TickPools$Trade" "fees" "J"], w ∈ lw_gt
  simp only [List.forall_mem_cons]
  exact ⟨tw_260, tw_262, tw_264, tw_266, tw_268, tw_270, tw_272, tw_274, tw_276, tw_278, tw_280, tw_282, tw_284, tw_286, fun _ h => absurd h List.not_mem_nil⟩
theorem inX11 : ∀ w ∈ u_ws RX11 TX11 8, w ∈ lw_gt := by
  show ∀ w ∈ [(.laysFinal "TickPools" "TickPools" "tape" "LTickPools$Tape;" : Cond), .laysFinal "TickPools" "TickPools" "live" "LTickPools$Market;", .laysFinal "TickPools" "TickPools" "spare" "LTickPools$Market;", .laysFinal "TickPools" "TickPools" "marketReader" "LTickPools$MarketReader;", .laysFinal "TickPools" "TickPools" "script" "LTickPools$Script;", .laysFinal "TickPools" "TickPools" "runner" "LTickPools$Runner;", .laysFinal "TickPools" "TickPools" "trade" "LTickPools$Trade;", .laysFinal "TickPools" "TickPools" "finder" "LTickPools$Finder;"], w ∈ lw_gt
  simp only [List.forall_mem_cons]
  exact ⟨tw_468, tw_470, tw_472, tw_474, tw_476, tw_478, tw_480, tw_482, fun _ h => absurd h List.not_mem_nil⟩
theorem inX12 : ∀ w ∈ u_ws RX12 TX12 55, w ∈ lw_gt := by
  show ∀ w ∈ [(.laysFinal "TickPoolsModel" "TickPoolsModel" "rootOf" "[J" : Cond), .lays "TickPoolsModel" "TickPoolsModel" "things" "I", .lays "TickPoolsModel" "TickPoolsModel" "people" "I", .lays "TickPoolsModel" "TickPoolsModel" "pools" "I", .laysFinal "TickPoolsModel" "TickPoolsModel" "told" "[I", .laysFinal "TickPoolsModel" "TickPoolsModel" "now" "[J", .laysFinal "TickPoolsModel" "TickPoolsModel" "was" "[J", .laysFinal "TickPoolsModel" "TickPoolsModel" "tape" "[B", .lays "TickPoolsModel" "TickPoolsModel" "taped" "I", .lays "TickPoolsModel" "TickPoolsModel" "at" "I", .lays "TickPoolsModel" "TickPoolsModel" "wrong" "I", .lays "TickPoolsModel" "TickPoolsModel" "number" "I", .laysFinal "TickPoolsModel" "TickPoolsModel" "marketWord" "J", .laysFinal "TickPoolsModel" "TickPoolsModel" "poolWord" "J", .laysFinal "TickPoolsModel" "TickPoolsModel" "purseWord" "J", .laysFinal "TickPoolsModel" "TickPoolsModel" "inWord" "J", .laysFinal "TickPoolsModel" "TickPoolsModel" "outWord" "J", .laysFinal "TickPoolsModel" "TickPoolsModel" "addWord" "J", .laysFinal "TickPoolsModel" "TickPoolsModel" "dropWord" "J", .laysFinal "TickPoolsModel" "TickPoolsModel" "leastWord" "J", .laysFinal "TickPoolsModel" "TickPoolsModel" "lendWord" "J", .laysFinal "TickPoolsModel" "TickPoolsModel" "timesWord" "J", .laysFinal "TickPoolsModel" "TickPoolsModel" "allWord" "J", .laysFinal "TickPoolsModel" "TickPoolsModel" "gotWord" "J", .lays "TickPoolsModel" "TickPoolsModel" "readThings" "I", .lays "TickPoolsModel" "TickPoolsModel" "readPeople" "I", .lays "TickPoolsModel" "TickPoolsModel" "readPools" "I", .laysFinal "TickPoolsModel" "TickPoolsModel" "readPool" "[I", .laysFinal "TickPoolsModel" "TickPoolsModel" "readPurse" "[I", .lays "TickPoolsModel" "TickPoolsModel" "left" "J", .lays "TickPoolsModel" "TickPoolsModel" "came" "J", .lays "TickPoolsModel" "TickPoolsModel" "gone" "J", .lays "TickPoolsModel" "TickPoolsModel" "fees" "J", .lays "TickPoolsModel" "TickPoolsModel" "crossed" "I", .lays "TickPoolsModel" "TickPoolsModel" "stepMany" "I", .laysFinal "TickPoolsModel" "TickPoolsModel" "kind" "[I", .laysFinal "TickPoolsModel" "TickPoolsModel" "placeOf" "[I", .laysFinal "TickPoolsModel" "TickPoolsModel" "numbers" "[I", .laysFinal "TickPoolsModel" "TickPoolsModel" "muchBy" "[I", .laysFinal "TickPoolsModel" "TickPoolsModel" "behind" "[I", .laysFinal "TickPoolsModel" "TickPoolsModel" "stepWords" "[J", .laysFinal "TickPoolsModel" "TickPoolsModel" "open" "[I", .lays "TickPoolsModel" "TickPoolsModel" "opened" "I", .lays "TickPoolsModel" "TickPoolsModel" "who" "I", .lays "TickPoolsModel" "TickPoolsModel" "doneMany" "I", .lays "TickPoolsModel" "TickPoolsModel" "got" "J", .lays "TickPoolsModel" "TickPoolsModel" "locked" "I", .laysFinal "TickPoolsModel" "TickPoolsModel" "within" "[I", .laysFinal "TickPoolsModel" "TickPoolsModel" "turns" "[I", .laysFinal "TickPoolsModel" "TickPoolsModel" "lent" "[J", .lays "TickPoolsModel" "TickPoolsModel" "deep" "I", .lays "TickPoolsModel" "TickPoolsModel" "best" "J", .lays "TickPoolsModel" "TickPoolsModel" "bestRow" "I", .lays "TickPoolsModel" "TickPoolsModel" "partsAll" "J", .lays "TickPoolsModel" "TickPoolsModel" "others" "I"], w ∈ lw_gt
  simp only [List.forall_mem_cons]
  exact ⟨tw_1266, tw_1268, tw_1270, tw_1272, tw_1274, tw_1276, tw_1278, tw_1280, tw_1282, tw_1284, tw_1286, tw_1288, tw_1290, tw_1292, tw_1294, tw_1296, tw_1298, tw_1300, tw_1302, tw_1304, tw_1306, tw_1308, tw_1310, tw_1312, tw_1314, tw_1316, tw_1318, tw_1320, tw_1322, tw_1324, tw_1326, tw_1328, tw_1330, tw_1332, tw_1334, tw_1336, tw_1338, tw_1340, tw_1342, tw_1344, tw_1346, tw_1348, tw_1350, tw_1352, tw_1354, tw_1356, tw_1358, tw_1360, tw_1362, tw_1364, tw_1366, tw_1368, tw_1370, tw_1372, tw_1374, fun _ h => absurd h List.not_mem_nil⟩
abbrev vwCl : List vw_C := [(RX1, TX1, 9), (RX2, TX2, 9), (RX3, TX3, 2), (RX4, TX4, 12), (RX5, TX5, 13), (RX6, TX6, 5), (RX7, TX7, 8), (RX8, TX8, 10), (RX9, TX9, 7), (RX10, TX10, 14), (RX11, TX11, 8), (RX12, TX12, 55)]
