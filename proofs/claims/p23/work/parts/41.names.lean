def RX0 : String := "BalanceCoder$Bench"
def TX0 : u_T := fun k => match k with
  | 0 => ("BalanceCoder$Bench", "trial", "LBalanceCoder$Table;", true)
  | 1 => ("BalanceCoder$Bench", "guide", "LBalanceCoder$Guide;", true)
  | 2 => ("BalanceCoder$Bench", "steps", "LBalanceCoder$Steps;", true)
  | 3 => ("BalanceCoder$Bench", "states", "[I", true)
  | 4 => ("BalanceCoder$Bench", "bytes", "[I", true)
  | _ => ("BalanceCoder$Bench", "used", "I", false)
def tyX0 : Nat → FieldType := fun k => match k with
  | 0 => .object "BalanceCoder$Table"
  | 1 => .object "BalanceCoder$Guide"
  | 2 => .object "BalanceCoder$Steps"
  | 3 => .array .int
  | 4 => .array .int
  | _ => .int
abbrev wsX00 : List Cond := u_ws RX0 TX0 6
theorem nmX0 : ∀ a, a < 6 → ∀ b, b < 6 → a ≠ b → (TX0 a).2.1 ≠ (TX0 b).2.1 := by decide +kernel
theorem tyX0_ok : ∀ k, k < 6 → parseFieldDescriptor (TX0 k).2.2.1 = some (tyX0 k) := by decide +kernel
def RX1 : String := "BalanceCoder$Block"
def TX1 : u_T := fun k => match k with
  | 0 => ("BalanceCoder$Block", "bytes", "[I", true)
  | 1 => ("BalanceCoder$Block", "length", "I", false)
  | 2 => ("BalanceCoder$Block", "made", "Z", false)
  | 3 => ("BalanceCoder$Block", "steps", "LBalanceCoder$Steps;", true)
  | _ => ("BalanceCoder$Block", "markEvery", "I", false)
def tyX1 : Nat → FieldType := fun k => match k with
  | 0 => .array .int
  | 1 => .int
  | 2 => .boolean
  | 3 => .object "BalanceCoder$Steps"
  | _ => .int
abbrev wsX10 : List Cond := u_ws RX1 TX1 5
theorem nmX1 : ∀ a, a < 5 → ∀ b, b < 5 → a ≠ b → (TX1 a).2.1 ≠ (TX1 b).2.1 := by decide +kernel
theorem tyX1_ok : ∀ k, k < 5 → parseFieldDescriptor (TX1 k).2.2.1 = some (tyX1 k) := by decide +kernel
def RX2 : String := "BalanceCoder$Deal"
def TX2 : u_T := fun k => match k with
  | _ => ("BalanceCoder$Deal", "begins", "[I", true)
def tyX2 : Nat → FieldType := fun k => match k with
  | _ => .array .int
abbrev wsX20 : List Cond := u_ws RX2 TX2 1
theorem nmX2 : ∀ a, a < 1 → ∀ b, b < 1 → a ≠ b → (TX2 a).2.1 ≠ (TX2 b).2.1 := by decide +kernel
theorem tyX2_ok : ∀ k, k < 1 → parseFieldDescriptor (TX2 k).2.2.1 = some (tyX2 k) := by decide +kernel
def RX3 : String := "BalanceCoder$Dealer"
def TX3 : u_T := fun k => match k with
  | 0 => ("BalanceCoder$Dealer", "counts", "[I", true)
  | 1 => ("BalanceCoder$Dealer", "counted", "[I", true)
  | 2 => ("BalanceCoder$Dealer", "countedSigns", "I", false)
  | _ => ("BalanceCoder$Dealer", "costSums", "[I", false)
def tyX3 : Nat → FieldType := fun k => match k with
  | 0 => .array .int
  | 1 => .array .int
  | 2 => .int
  | _ => .array .int
abbrev wsX30 : List Cond := u_ws RX3 TX3 4
theorem nmX3 : ∀ a, a < 4 → ∀ b, b < 4 → a ≠ b → (TX3 a).2.1 ≠ (TX3 b).2.1 := by decide +kernel
theorem tyX3_ok : ∀ k, k < 4 → parseFieldDescriptor (TX3 k).2.2.1 = some (tyX3 k) := by decide +kernel
def RX4 : String := "BalanceCoder$Guide"
def TX4 : u_T := fun k => match k with
  | 0 => ("BalanceCoder$Guide", "growing", "LBalanceCoder$Deal;", true)
  | _ => ("BalanceCoder$Guide", "before", "I", false)
def tyX4 : Nat → FieldType := fun k => match k with
  | 0 => .object "BalanceCoder$Deal"
  | _ => .int
abbrev wsX40 : List Cond := u_ws RX4 TX4 2
theorem nmX4 : ∀ a, a < 2 → ∀ b, b < 2 → a ≠ b → (TX4 a).2.1 ≠ (TX4 b).2.1 := by decide +kernel
theorem tyX4_ok : ∀ k, k < 2 → parseFieldDescriptor (TX4 k).2.2.1 = some (tyX4 k) := by decide +kernel
def RX5 : String := "BalanceCoder$Reader"
def TX5 : u_T := fun k => match k with
  | 0 => ("BalanceCoder$Reader", "place", "I", false)
  | _ => ("BalanceCoder$Reader", "wrong", "I", false)
def tyX5 : Nat → FieldType := fun k => match k with
  | 0 => .int
  | _ => .int
abbrev wsX50 : List Cond := u_ws RX5 TX5 2
theorem nmX5 : ∀ a, a < 2 → ∀ b, b < 2 → a ≠ b → (TX5 a).2.1 ≠ (TX5 b).2.1 := by decide +kernel
theorem tyX5_ok : ∀ k, k < 2 → parseFieldDescriptor (TX5 k).2.2.1 = some (tyX5 k) := by decide +kernel
def RX6 : String := "BalanceCoder$Row"
def TX6 : u_T := fun k => match k with
  | 0 => ("BalanceCoder$Row", "signs", "[I", true)
  | _ => ("BalanceCoder$Row", "count", "I", false)
def tyX6 : Nat → FieldType := fun k => match k with
  | 0 => .array .int
  | _ => .int
abbrev wsX60 : List Cond := u_ws RX6 TX6 2
theorem nmX6 : ∀ a, a < 2 → ∀ b, b < 2 → a ≠ b → (TX6 a).2.1 ≠ (TX6 b).2.1 := by decide +kernel
theorem tyX6_ok : ∀ k, k < 2 → parseFieldDescriptor (TX6 k).2.2.1 = some (tyX6 k) := by decide +kernel
def RX7 : String := "BalanceCoder$Steps"
def TX7 : u_T := fun k => match k with
  | 0 => ("BalanceCoder$Steps", "signs", "[I", true)
  | 1 => ("BalanceCoder$Steps", "states", "[I", true)
  | 2 => ("BalanceCoder$Steps", "lefts", "[I", true)
  | 3 => ("BalanceCoder$Steps", "shares", "[I", true)
  | 4 => ("BalanceCoder$Steps", "begins", "[I", true)
  | _ => ("BalanceCoder$Steps", "count", "I", false)
def tyX7 : Nat → FieldType := fun k => match k with
  | 0 => .array .int
  | 1 => .array .int
  | 2 => .array .int
  | 3 => .array .int
  | 4 => .array .int
  | _ => .int
abbrev wsX70 : List Cond := u_ws RX7 TX7 6
theorem nmX7 : ∀ a, a < 6 → ∀ b, b < 6 → a ≠ b → (TX7 a).2.1 ≠ (TX7 b).2.1 := by decide +kernel
theorem tyX7_ok : ∀ k, k < 6 → parseFieldDescriptor (TX7 k).2.2.1 = some (tyX7 k) := by decide +kernel
def RX8 : String := "BalanceCoder$Table"
def TX8 : u_T := fun k => match k with
  | 0 => ("BalanceCoder$Table", "deals", "[LBalanceCoder$Deal;", true)
  | 1 => ("BalanceCoder$Table", "kind", "I", false)
  | _ => ("BalanceCoder$Table", "\x72", "I", false)
def tyX8 : Nat → FieldType := fun k => match k with
  | 0 => .array (.object "BalanceCoder$Deal")
  | 1 => .int
  | _ => .int
abbrev wsX80 : List Cond := u_ws RX8 TX8 3
theorem nmX8 : ∀ a, a < 3 → ∀ b, b < 3 → a ≠ b → (TX8 a).2.1 ≠ (TX8 b).2.1 := by decide +kernel
theorem tyX8_ok : ∀ k, k < 3 → parseFieldDescriptor (TX8 k).2.2.1 = some (tyX8 k) := by decide +kernel
def RX9 : String := "BalanceCoder$Whole"
def TX9 : u_T := fun k => match k with
  | 0 => ("BalanceCoder$Whole", "rows", "[LBalanceCoder$Row;", true)
  | 1 => ("BalanceCoder$Whole", "tables", "[LBalanceCoder$Table;", true)
  | 2 => ("BalanceCoder$Whole", "tableCount", "I", false)
  | 3 => ("BalanceCoder$Whole", "block", "LBalanceCoder$Block;", true)
  | 4 => ("BalanceCoder$Whole", "lastMissing", "I", false)
  | _ => ("BalanceCoder$Whole", "lastRead", "I", false)
def tyX9 : Nat → FieldType := fun k => match k with
  | 0 => .array (.object "BalanceCoder$Row")
  | 1 => .array (.object "BalanceCoder$Table")
  | 2 => .int
  | 3 => .object "BalanceCoder$Block"
  | 4 => .int
  | _ => .int
abbrev wsX90 : List Cond := u_ws RX9 TX9 6
theorem nmX9 : ∀ a, a < 6 → ∀ b, b < 6 → a ≠ b → (TX9 a).2.1 ≠ (TX9 b).2.1 := by decide +kernel
theorem tyX9_ok : ∀ k, k < 6 → parseFieldDescriptor (TX9 k).2.2.1 = some (tyX9 k) := by decide +kernel
def RX10 : String := "BalanceCoder"
def TX10 : u_T := fun k => match k with
  | 0 => ("BalanceCoder", "now", "LBalanceCoder$Whole;", true)
  | 1 => ("BalanceCoder", "kept", "LBalanceCoder$Whole;", false)
  | 2 => ("BalanceCoder", "bench", "LBalanceCoder$Bench;", true)
  | 3 => ("BalanceCoder", "dealer", "LBalanceCoder$Dealer;", true)
  | 4 => ("BalanceCoder", "reader", "LBalanceCoder$Reader;", true)
  | 5 => ("BalanceCoder", "waiting", "[I", true)
  | 6 => ("BalanceCoder", "waits", "I", false)
  | _ => ("BalanceCoder", "findings", "I", false)
def tyX10 : Nat → FieldType := fun k => match k with
  | 0 => .object "BalanceCoder$Whole"
  | 1 => .object "BalanceCoder$Whole"
  | 2 => .object "BalanceCoder$Bench"
  | 3 => .object "BalanceCoder$Dealer"
  | 4 => .object "BalanceCoder$Reader"
  | 5 => .array .int
  | 6 => .int
  | _ => .int
abbrev wsX100 : List Cond := u_ws RX10 TX10 8
theorem nmX10 : ∀ a, a < 8 → ∀ b, b < 8 → a ≠ b → (TX10 a).2.1 ≠ (TX10 b).2.1 := by decide +kernel
theorem tyX10_ok : ∀ k, k < 8 → parseFieldDescriptor (TX10 k).2.2.1 = some (tyX10 k) := by decide +kernel
def RX11 : String := "BalanceCoderModel$Book"
def TX11 : u_T := fun k => match k with
  | 0 => ("BalanceCoderModel$Book", "sizes", "[I", true)
  | 1 => ("BalanceCoderModel$Book", "rows", "[I", true)
  | 2 => ("BalanceCoderModel$Book", "tables", "I", false)
  | 3 => ("BalanceCoderModel$Book", "kinds", "[I", true)
  | 4 => ("BalanceCoderModel$Book", "bits", "[I", true)
  | 5 => ("BalanceCoderModel$Book", "learnt", "[Z", true)
  | 6 => ("BalanceCoderModel$Book", "shares", "[I", true)
  | 7 => ("BalanceCoderModel$Book", "blockSize", "I", false)
  | 8 => ("BalanceCoderModel$Book", "block", "[I", true)
  | 9 => ("BalanceCoderModel$Book", "made", "Z", false)
  | 10 => ("BalanceCoderModel$Book", "marks", "I", false)
  | 11 => ("BalanceCoderModel$Book", "markEach", "I", false)
  | 12 => ("BalanceCoderModel$Book", "place", "I", false)
  | _ => ("BalanceCoderModel$Book", "read", "I", false)
def tyX11 : Nat → FieldType := fun k => match k with
  | 0 => .array .int
  | 1 => .array .int
  | 2 => .int
  | 3 => .array .int
  | 4 => .array .int
  | 5 => .array .boolean
  | 6 => .array .int
  | 7 => .int
  | 8 => .array .int
  | 9 => .boolean
  | 10 => .int
  | 11 => .int
  | 12 => .int
  | _ => .int
abbrev wsX110 : List Cond := u_ws RX11 TX11 14
theorem nmX11 : ∀ a, a < 14 → ∀ b, b < 14 → a ≠ b → (TX11 a).2.1 ≠ (TX11 b).2.1 := by decide +kernel
theorem tyX11_ok : ∀ k, k < 14 → parseFieldDescriptor (TX11 k).2.2.1 = some (tyX11 k) := by decide +kernel
def RX12 : String := "BalanceCoderModel"
def TX12 : u_T := fun k => match k with
  | 0 => ("BalanceCoderModel", "b", "LBalanceCoderModel$Book;", true)
  | 1 => ("BalanceCoderModel", "kept", "LBalanceCoderModel$Book;", true)
  | 2 => ("BalanceCoderModel", "keeps", "Z", false)
  | 3 => ("BalanceCoderModel", "findings", "I", false)
  | 4 => ("BalanceCoderModel", "waiting", "I", false)
  | 5 => ("BalanceCoderModel", "wait", "[I", true)
  | 6 => ("BalanceCoderModel", "spare", "[I", true)
  | 7 => ("BalanceCoderModel", "counts", "[I", true)
  | 8 => ("BalanceCoderModel", "deal", "[I", true)
  | 9 => ("BalanceCoderModel", "kind", "I", false)
  | 10 => ("BalanceCoderModel", "all", "I", false)
  | 11 => ("BalanceCoderModel", "deals", "[I", true)
  | 12 => ("BalanceCoderModel", "share", "I", false)
  | 13 => ("BalanceCoderModel", "begin", "I", false)
  | 14 => ("BalanceCoderModel", "signShares", "[I", true)
  | 15 => ("BalanceCoderModel", "signBegins", "[I", true)
  | 16 => ("BalanceCoderModel", "states", "[J", true)
  | 17 => ("BalanceCoderModel", "packed", "[I", true)
  | 18 => ("BalanceCoderModel", "packs", "I", false)
  | 19 => ("BalanceCoderModel", "fresh", "[I", true)
  | 20 => ("BalanceCoderModel", "freshSize", "I", false)
  | 21 => ("BalanceCoderModel", "first", "[I", true)
  | 22 => ("BalanceCoderModel", "at", "I", false)
  | 23 => ("BalanceCoderModel", "lanes", "I", false)
  | 24 => ("BalanceCoderModel", "many", "I", false)
  | 25 => ("BalanceCoderModel", "statesAt", "I", false)
  | 26 => ("BalanceCoderModel", "bytesAt", "I", false)
  | 27 => ("BalanceCoderModel", "byteCount", "I", false)
  | 28 => ("BalanceCoderModel", "taken", "[I", true)
  | 29 => ("BalanceCoderModel", "stateBehind", "[J", true)
  | _ => ("BalanceCoderModel", "leftBehind", "[I", true)
def tyX12 : Nat → FieldType := fun k => match k with
  | 0 => .object "BalanceCoderModel$Book"
  | 1 => .object "BalanceCoderModel$Book"
  | 2 => .boolean
  | 3 => .int
  | 4 => .int
  | 5 => .array .int
  | 6 => .array .int
  | 7 => .array .int
  | 8 => .array .int
  | 9 => .int
  | 10 => .int
  | 11 => .array .int
  | 12 => .int
  | 13 => .int
  | 14 => .array .int
  | 15 => .array .int
  | 16 => .array .long
  | 17 => .array .int
  | 18 => .int
  | 19 => .array .int
  | 20 => .int
  | 21 => .array .int
  | 22 => .int
  | 23 => .int
  | 24 => .int
  | 25 => .int
  | 26 => .int
  | 27 => .int
  | 28 => .array .int
  | 29 => .array .long
  | _ => .array .int
abbrev wsX120 : List Cond := u_ws RX12 TX12 31
theorem nmX12 : ∀ a, a < 31 → ∀ b, b < 31 → a ≠ b → (TX12 a).2.1 ≠ (TX12 b).2.1 := by decide +kernel
theorem tyX12_ok : ∀ k, k < 31 → parseFieldDescriptor (TX12 k).2.2.1 = some (tyX12 k) := by decide +kernel
abbrev vwCl : List vw_C := [(RX0, TX0, 6), (RX1, TX1, 5), (RX2, TX2, 1), (RX3, TX3, 4), (RX4, TX4, 2), (RX5, TX5, 2), (RX6, TX6, 2), (RX7, TX7, 6), (RX8, TX8, 3), (RX9, TX9, 6), (RX10, TX10, 8), (RX11, TX11, 14), (RX12, TX12, 31)]
def n_KT : List qKD := [(1, 0, 0, []), (1, 0, 400, [(0, 0, (-2147483648), 2147483647)]), (1, 0, 257, [(0, 0, (-2147483648), 2147483647)]), (1, 0, 256, [(0, 0, (-2147483648), 2147483647)]), (1, 0, 4, [(0, 0, (-2147483648), 2147483647)]), (1, 0, 800, [(0, 0, (-2147483648), 2147483647)]), (1, 0, 4400, [(0, 0, (-2147483648), 2147483647)]), (1, 0, 4097, [(0, 0, (-2147483648), 2147483647)]), (1, 0, 6, [(0, 0, (-2147483648), 2147483647)]), (1, 0, 2400, [(0, 0, (-2147483648), 2147483647)]), (1, 0, 10, [(0, 0, (-2147483648), 2147483647)]), (1, 0, 10240, [(0, 0, (-2147483648), 2147483647)]), (1, 0, 1024, [(0, 0, (-2147483648), 2147483647)]), (1, 0, 1200, [(0, 0, (-2147483648), 2147483647)]), (1, 0, 4500, [(0, 0, (-2147483648), 2147483647)]), (3, 1, 4, [(1, 0, 0, 0)]), (3, 1, 400, [(1, 0, 0, 0)]), (4, 2, 10, [(0, 0, 0, 1)]), (2, 3, 6, [(4, 27, 0, 0)]), (2, 4, 4, [(4, 23, 0, 0)]), (2, 5, 10, [(4, 29, 0, 0)]), (0, 0, 0, [(4, 29, 0, 0), (4, 25, 0, 0), (4, 28, 0, 0), (4, 4, 0, 0), (4, 5, 0, 0), (0, 0, (-2147483648), 2147483647)]), (0, 1, 0, [(4, 6, 0, 0), (0, 0, (-2147483648), 2147483647), (0, 0, 0, 1), (4, 28, 0, 0), (0, 0, (-2147483648), 2147483647)]), (0, 2, 0, [(4, 2, 0, 0)]), (0, 3, 0, [(4, 3, 0, 0), (4, 3, 0, 0), (0, 0, (-2147483648), 2147483647), (4, 7, 0, 0)]), (0, 4, 0, [(4, 23, 0, 0), (0, 0, (-2147483648), 2147483647)]), (0, 5, 0, [(0, 0, (-2147483648), 2147483647), (0, 0, (-2147483648), 2147483647)]), (0, 6, 0, [(4, 1, 0, 0), (0, 0, (-2147483648), 2147483647)]), (0, 7, 0, [(4, 1, 0, 0), (4, 1, 0, 0), (4, 1, 0, 0), (4, 1, 0, 0), (4, 1, 0, 0), (0, 0, (-2147483648), 2147483647)]), (0, 8, 0, [(4, 19, 0, 0), (0, 0, (-2147483648), 2147483647), (0, 0, (-2147483648), 2147483647)]), (0, 9, 0, [(4, 18, 0, 0), (4, 20, 0, 0), (0, 0, (-2147483648), 2147483647), (4, 22, 0, 0), (0, 0, (-2147483648), 2147483647), (0, 0, (-2147483648), 2147483647)]), (0, 10, 0, [(4, 30, 0, 0), (4, 30, 0, 0), (4, 21, 0, 0), (4, 24, 0, 0), (4, 26, 0, 0), (4, 1, 0, 0), (0, 0, (-2147483648), 2147483647), (0, 0, (-2147483648), 2147483647)]), (0, 11, 0, [(4, 8, 0, 0), (4, 9, 0, 0), (0, 0, (-2147483648), 2147483647), (4, 10, 0, 0), (4, 10, 0, 0), (4, 17, 0, 0), (4, 11, 0, 0), (0, 0, (-2147483648), 2147483647), (4, 6, 0, 0), (0, 0, 0, 1), (0, 0, (-2147483648), 2147483647), (0, 0, (-2147483648), 2147483647), (0, 0, (-2147483648), 2147483647), (0, 0, (-2147483648), 2147483647)]), (0, 12, 0, [(4, 32, 0, 0), (4, 32, 0, 0), (0, 0, 0, 1), (0, 0, (-2147483648), 2147483647), (0, 0, (-2147483648), 2147483647), (4, 1, 0, 0), (4, 1, 0, 0), (4, 3, 0, 0), (4, 3, 0, 0), (0, 0, (-2147483648), 2147483647), (0, 0, (-2147483648), 2147483647), (4, 12, 0, 0), (0, 0, (-2147483648), 2147483647), (0, 0, (-2147483648), 2147483647), (4, 1, 0, 0), (4, 1, 0, 0), (4, 15, 0, 0), (4, 13, 0, 0), (0, 0, (-2147483648), 2147483647), (4, 14, 0, 0), (0, 0, (-2147483648), 2147483647), (4, 12, 0, 0), (0, 0, (-2147483648), 2147483647), (0, 0, (-2147483648), 2147483647), (0, 0, (-2147483648), 2147483647), (0, 0, (-2147483648), 2147483647), (0, 0, (-2147483648), 2147483647), (0, 0, (-2147483648), 2147483647), (4, 1, 0, 0), (4, 16, 0, 0), (4, 1, 0, 0)])]
def n_TL : List FieldType := [.int, .long, .boolean, .object "BalanceCoder$Row", .object "BalanceCoder$Deal", .object "BalanceCoder$Table"]
def n_GW : List Cond := lw_tbl.filter goodWord
theorem n_in {w : Cond} (i : Nat) (h : lw_tbl[i]? = some w) (hg : goodWord w = true) : w ∈ n_GW := List.mem_filter.mpr ⟨List.mem_of_getElem? h, hg⟩
theorem n_sub {l : List Cond} (h : ∀ w ∈ l, w ∈ lw_tbl) (hg : l.all goodWord = true) : ∀ w ∈ l, w ∈ n_GW := fun w hw => List.mem_filter.mpr ⟨h w hw, List.all_eq_true.mp hg w hw⟩
theorem n_u0 : ∀ w ∈ u_ws RX0 TX0 6, w ∈ n_GW := n_sub (by decide +kernel) (by decide +kernel)
theorem n_u1 : ∀ w ∈ u_ws RX1 TX1 5, w ∈ n_GW := n_sub (by decide +kernel) (by decide +kernel)
theorem n_u2 : ∀ w ∈ u_ws RX2 TX2 1, w ∈ n_GW := n_sub (by decide +kernel) (by decide +kernel)
theorem n_u3 : ∀ w ∈ u_ws RX3 TX3 4, w ∈ n_GW := n_sub (by decide +kernel) (by decide +kernel)
theorem n_u4 : ∀ w ∈ u_ws RX4 TX4 2, w ∈ n_GW := n_sub (by decide +kernel) (by decide +kernel)
theorem n_u5 : ∀ w ∈ u_ws RX5 TX5 2, w ∈ n_GW := n_sub (by decide +kernel) (by decide +kernel)
theorem n_u6 : ∀ w ∈ u_ws RX6 TX6 2, w ∈ n_GW := n_sub (by decide +kernel) (by decide +kernel)
theorem n_u7 : ∀ w ∈ u_ws RX7 TX7 6, w ∈ n_GW := n_sub (by decide +kernel) (by decide +kernel)
theorem n_u8 : ∀ w ∈ u_ws RX8 TX8 3, w ∈ n_GW := n_sub (by decide +kernel) (by decide +kernel)
theorem n_u9 : ∀ w ∈ u_ws RX9 TX9 6, w ∈ n_GW := n_sub (by decide +kernel) (by decide +kernel)
theorem n_u10 : ∀ w ∈ u_ws RX10 TX10 8, w ∈ n_GW := n_sub (by decide +kernel) (by decide +kernel)
theorem n_u11 : ∀ w ∈ u_ws RX11 TX11 14, w ∈ n_GW := n_sub (by decide +kernel) (by decide +kernel)
theorem n_u12 : ∀ w ∈ u_ws RX12 TX12 31, w ∈ n_GW := n_sub (by decide +kernel) (by decide +kernel)
