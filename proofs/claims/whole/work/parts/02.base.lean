/-! the classes of the world, their fields by slots, and which slots hold numbers (0), references that stay (1), references that change (2) -/
def jTC : u_T := fun k => match k with
  | 0 => ("CitingLetters", "tape", "[I", true)
  | 1 => ("CitingLetters", "tapeLength", "I", false)
  | 2 => ("CitingLetters", "habits", "LCitingLetters$Habits;", false)
  | 3 => ("CitingLetters", "draft", "LCitingLetters$Habits;", false)
  | 4 => ("CitingLetters", "textReader", "LCitingLetters$TextReader;", true)
  | 5 => ("CitingLetters", "facts", "[I", true)
  | 6 => ("CitingLetters", "today", "I", false)
  | 7 => ("CitingLetters", "ledger", "LCitingLetters$Ledger;", true)
  | 8 => ("CitingLetters", "post", "LCitingLetters$Post;", true)
  | 9 => ("CitingLetters", "desks", "LCitingLetters$Desks;", true)
  | 10 => ("CitingLetters", "doubts", "LCitingLetters$Doubts;", true)
  | 11 => ("CitingLetters", "rows", "LCitingLetters$Chains;", true)
  | _ => ("CitingLetters", "ordering", "LCitingLetters$Orders;", true)
def jtC : Nat → FieldType := fun k => match k with
  | 0 => (.array .int)
  | 1 => .int
  | 2 => (.object "CitingLetters$Habits")
  | 3 => (.object "CitingLetters$Habits")
  | 4 => (.object "CitingLetters$TextReader")
  | 5 => (.array .int)
  | 6 => .int
  | 7 => (.object "CitingLetters$Ledger")
  | 8 => (.object "CitingLetters$Post")
  | 9 => (.object "CitingLetters$Desks")
  | 10 => (.object "CitingLetters$Doubts")
  | 11 => (.object "CitingLetters$Chains")
  | _ => (.object "CitingLetters$Orders")
theorem jtC_ok : ∀ k, k < 13 → parseFieldDescriptor (jTC k).2.2.1 = some (jtC k) := by decide +kernel
theorem jnC_ok : ∀ a, a < 13 → ∀ b, b < 13 → a ≠ b → (jTC a).2.1 ≠ (jTC b).2.1 := by decide +kernel
def jTH : u_T := fun k => match k with
  | 0 => ("CitingLetters$Habits", "rule", "[LCitingLetters$Token;", true)
  | 1 => ("CitingLetters$Habits", "ruled", "I", false)
  | 2 => ("CitingLetters$Habits", "lines", "I", false)
  | 3 => ("CitingLetters$Habits", "round", "[Z", true)
  | 4 => ("CitingLetters$Habits", "who", "[I", true)
  | 5 => ("CitingLetters$Habits", "begin", "[I", true)
  | 6 => ("CitingLetters$Habits", "end", "[I", true)
  | 7 => ("CitingLetters$Habits", "count", "I", false)
  | 8 => ("CitingLetters$Habits", "code", "[LCitingLetters$Token;", true)
  | 9 => ("CitingLetters$Habits", "worth", "[I", true)
  | 10 => ("CitingLetters$Habits", "codeLength", "I", false)
  | 11 => ("CitingLetters$Habits", "knots", "I", false)
  | _ => ("CitingLetters$Habits", "values", "[I", true)
def jtH : Nat → FieldType := fun k => match k with
  | 0 => (.array (.object "CitingLetters$Token"))
  | 1 => .int
  | 2 => .int
  | 3 => (.array .boolean)
  | 4 => (.array .int)
  | 5 => (.array .int)
  | 6 => (.array .int)
  | 7 => .int
  | 8 => (.array (.object "CitingLetters$Token"))
  | 9 => (.array .int)
  | 10 => .int
  | 11 => .int
  | _ => (.array .int)
theorem jtH_ok : ∀ k, k < 13 → parseFieldDescriptor (jTH k).2.2.1 = some (jtH k) := by decide +kernel
theorem jnH_ok : ∀ a, a < 13 → ∀ b, b < 13 → a ≠ b → (jTH a).2.1 ≠ (jTH b).2.1 := by decide +kernel
def jTR : u_T := fun k => match k with
  | 0 => ("CitingLetters$TextReader", "scanner", "LCitingLetters$Scanner;", true)
  | 1 => ("CitingLetters$TextReader", "at", "I", false)
  | 2 => ("CitingLetters$TextReader", "token", "LCitingLetters$Token;", false)
  | 3 => ("CitingLetters$TextReader", "worth", "I", false)
  | 4 => ("CitingLetters$TextReader", "fault", "I", false)
  | 5 => ("CitingLetters$TextReader", "faultPlace", "I", false)
  | 6 => ("CitingLetters$TextReader", "draft", "LCitingLetters$Habits;", false)
  | 7 => ("CitingLetters$TextReader", "pending", "[LCitingLetters$Token;", true)
  | 8 => ("CitingLetters$TextReader", "pendingCount", "I", false)
  | 9 => ("CitingLetters$TextReader", "open", "I", false)
  | 10 => ("CitingLetters$TextReader", "compared", "[Z", true)
  | 11 => ("CitingLetters$TextReader", "valueDue", "Z", false)
  | _ => ("CitingLetters$TextReader", "notMayStand", "Z", false)
def jtR : Nat → FieldType := fun k => match k with
  | 0 => (.object "CitingLetters$Scanner")
  | 1 => .int
  | 2 => (.object "CitingLetters$Token")
  | 3 => .int
  | 4 => .int
  | 5 => .int
  | 6 => (.object "CitingLetters$Habits")
  | 7 => (.array (.object "CitingLetters$Token"))
  | 8 => .int
  | 9 => .int
  | 10 => (.array .boolean)
  | 11 => .boolean
  | _ => .boolean
theorem jtR_ok : ∀ k, k < 13 → parseFieldDescriptor (jTR k).2.2.1 = some (jtR k) := by decide +kernel
theorem jnR_ok : ∀ a, a < 13 → ∀ b, b < 13 → a ≠ b → (jTR a).2.1 ≠ (jTR b).2.1 := by decide +kernel
def jTS : u_T := fun k => match k with
  | 0 => ("CitingLetters$Scanner", "bytes", "[I", true)
  | 1 => ("CitingLetters$Scanner", "length", "I", false)
  | 2 => ("CitingLetters$Scanner", "token", "[LCitingLetters$Token;", true)
  | 3 => ("CitingLetters$Scanner", "place", "[I", true)
  | 4 => ("CitingLetters$Scanner", "worth", "[I", true)
  | _ => ("CitingLetters$Scanner", "count", "I", false)
def jtS : Nat → FieldType := fun k => match k with
  | 0 => (.array .int)
  | 1 => .int
  | 2 => (.array (.object "CitingLetters$Token"))
  | 3 => (.array .int)
  | 4 => (.array .int)
  | _ => .int
theorem jtS_ok : ∀ k, k < 6 → parseFieldDescriptor (jTS k).2.2.1 = some (jtS k) := by decide +kernel
theorem jnS_ok : ∀ a, a < 6 → ∀ b, b < 6 → a ≠ b → (jTS a).2.1 ≠ (jTS b).2.1 := by decide +kernel
def jTL : u_T := fun k => match k with
  | 0 => ("CitingLetters$Ledger", "writer", "[I", true)
  | 1 => ("CitingLetters$Ledger", "day", "[I", true)
  | 2 => ("CitingLetters$Ledger", "kind", "[I", true)
  | 3 => ("CitingLetters$Ledger", "goesTo", "[I", true)
  | 4 => ("CitingLetters$Ledger", "one", "[I", true)
  | 5 => ("CitingLetters$Ledger", "other", "[I", true)
  | 6 => ("CitingLetters$Ledger", "known", "[I", true)
  | 7 => ("CitingLetters$Ledger", "past", "[I", true)
  | 8 => ("CitingLetters$Ledger", "cited", "[I", true)
  | 9 => ("CitingLetters$Ledger", "ends", "[I", true)
  | 10 => ("CitingLetters$Ledger", "listed", "[I", true)
  | 11 => ("CitingLetters$Ledger", "sum", "[I", true)
  | 12 => ("CitingLetters$Ledger", "by", "[I", true)
  | 13 => ("CitingLetters$Ledger", "sentTo", "[I", true)
  | 14 => ("CitingLetters$Ledger", "ring", "[I", true)
  | 15 => ("CitingLetters$Ledger", "size", "I", false)
  | _ => ("CitingLetters$Ledger", "left", "I", false)
def jtL : Nat → FieldType := fun k => match k with
  | 0 => (.array .int)
  | 1 => (.array .int)
  | 2 => (.array .int)
  | 3 => (.array .int)
  | 4 => (.array .int)
  | 5 => (.array .int)
  | 6 => (.array .int)
  | 7 => (.array .int)
  | 8 => (.array .int)
  | 9 => (.array .int)
  | 10 => (.array .int)
  | 11 => (.array .int)
  | 12 => (.array .int)
  | 13 => (.array .int)
  | 14 => (.array .int)
  | 15 => .int
  | _ => .int
theorem jtL_ok : ∀ k, k < 17 → parseFieldDescriptor (jTL k).2.2.1 = some (jtL k) := by decide +kernel
theorem jnL_ok : ∀ a, a < 17 → ∀ b, b < 17 → a ≠ b → (jTL a).2.1 ≠ (jTL b).2.1 := by decide +kernel
def jTP : u_T := fun k => match k with
  | 0 => ("CitingLetters$Post", "way", "[[I", true)
  | 1 => ("CitingLetters$Post", "least", "[[I", true)
  | 2 => ("CitingLetters$Post", "half", "I", false)
  | 3 => ("CitingLetters$Post", "splitFrom", "I", false)
  | 4 => ("CitingLetters$Post", "splitTo", "I", false)
  | 5 => ("CitingLetters$Post", "letter", "[I", true)
  | 6 => ("CitingLetters$Post", "sender", "[I", true)
  | 7 => ("CitingLetters$Post", "reader", "[I", true)
  | 8 => ("CitingLetters$Post", "day", "[I", true)
  | 9 => ("CitingLetters$Post", "state", "[I", true)
  | _ => ("CitingLetters$Post", "size", "I", false)
def jtP : Nat → FieldType := fun k => match k with
  | 0 => (.array (.array .int))
  | 1 => (.array (.array .int))
  | 2 => .int
  | 3 => .int
  | 4 => .int
  | 5 => (.array .int)
  | 6 => (.array .int)
  | 7 => (.array .int)
  | 8 => (.array .int)
  | 9 => (.array .int)
  | _ => .int
theorem jtP_ok : ∀ k, k < 11 → parseFieldDescriptor (jTP k).2.2.1 = some (jtP k) := by decide +kernel
theorem jnP_ok : ∀ a, a < 11 → ∀ b, b < 11 → a ≠ b → (jTP a).2.1 ≠ (jTP b).2.1 := by decide +kernel
def jTD : u_T := fun k => match k with
  | 0 => ("CitingLetters$Desks", "row", "[[I", true)
  | 1 => ("CitingLetters$Desks", "count", "[I", true)
  | 2 => ("CitingLetters$Desks", "held", "[I", true)
  | 3 => ("CitingLetters$Desks", "read", "[I", true)
  | _ => ("CitingLetters$Desks", "readDay", "[[I", true)
def jtD : Nat → FieldType := fun k => match k with
  | 0 => (.array (.array .int))
  | 1 => (.array .int)
  | 2 => (.array .int)
  | 3 => (.array .int)
  | _ => (.array (.array .int))
theorem jtD_ok : ∀ k, k < 5 → parseFieldDescriptor (jTD k).2.2.1 = some (jtD k) := by decide +kernel
theorem jnD_ok : ∀ a, a < 5 → ∀ b, b < 5 → a ≠ b → (jTD a).2.1 ≠ (jTD b).2.1 := by decide +kernel
def jTU : u_T := fun k => match k with
  | 0 => ("CitingLetters$Doubts", "ledger", "LCitingLetters$Ledger;", true)
  | _ => ("CitingLetters$Doubts", "post", "LCitingLetters$Post;", true)
def jtU : Nat → FieldType := fun k => match k with
  | 0 => (.object "CitingLetters$Ledger")
  | _ => (.object "CitingLetters$Post")
theorem jtU_ok : ∀ k, k < 2 → parseFieldDescriptor (jTU k).2.2.1 = some (jtU k) := by decide +kernel
theorem jnU_ok : ∀ a, a < 2 → ∀ b, b < 2 → a ≠ b → (jTU a).2.1 ≠ (jTU b).2.1 := by decide +kernel
def jTN : u_T := fun k => match k with
  | 0 => ("CitingLetters$Chains", "ledger", "LCitingLetters$Ledger;", true)
  | 1 => ("CitingLetters$Chains", "next", "[I", true)
  | 2 => ("CitingLetters$Chains", "previous", "[I", true)
  | 3 => ("CitingLetters$Chains", "reachedFrom", "[I", true)
  | _ => ("CitingLetters$Chains", "queue", "[I", true)
def jtN : Nat → FieldType := fun k => match k with
  | 0 => (.object "CitingLetters$Ledger")
  | 1 => (.array .int)
  | 2 => (.array .int)
  | 3 => (.array .int)
  | _ => (.array .int)
theorem jtN_ok : ∀ k, k < 5 → parseFieldDescriptor (jTN k).2.2.1 = some (jtN k) := by decide +kernel
theorem jnN_ok : ∀ a, a < 5 → ∀ b, b < 5 → a ≠ b → (jTN a).2.1 ≠ (jTN b).2.1 := by decide +kernel
def jTO : u_T := fun k => match k with
  | 0 => ("CitingLetters$Orders", "ledger", "LCitingLetters$Ledger;", true)
  | 1 => ("CitingLetters$Orders", "toldAhead", "[I", true)
  | 2 => ("CitingLetters$Orders", "toldBehind", "[I", true)
  | 3 => ("CitingLetters$Orders", "told", "I", false)
  | 4 => ("CitingLetters$Orders", "member", "[I", true)
  | 5 => ("CitingLetters$Orders", "need", "[I", true)
  | 6 => ("CitingLetters$Orders", "size", "I", false)
  | 7 => ("CitingLetters$Orders", "rest", "[I", true)
  | 8 => ("CitingLetters$Orders", "begun", "[I", true)
  | _ => ("CitingLetters$Orders", "aheadIn", "[[I", true)
def jtO : Nat → FieldType := fun k => match k with
  | 0 => (.object "CitingLetters$Ledger")
  | 1 => (.array .int)
  | 2 => (.array .int)
  | 3 => .int
  | 4 => (.array .int)
  | 5 => (.array .int)
  | 6 => .int
  | 7 => (.array .int)
  | 8 => (.array .int)
  | _ => (.array (.array .int))
theorem jtO_ok : ∀ k, k < 10 → parseFieldDescriptor (jTO k).2.2.1 = some (jtO k) := by decide +kernel
theorem jnO_ok : ∀ a, a < 10 → ∀ b, b < 10 → a ≠ b → (jTO a).2.1 ≠ (jTO b).2.1 := by decide +kernel
def jTM : u_T := fun k => match k with
  | 0 => ("CitingLettersModel", "thrown", "I", false)
  | 1 => ("CitingLettersModel", "tape", "[I", true)
  | 2 => ("CitingLettersModel", "taped", "I", false)
  | 3 => ("CitingLettersModel", "knotSort", "[I", true)
  | 4 => ("CitingLettersModel", "knotValue", "[I", true)
  | 5 => ("CitingLettersModel", "knotNew", "I", false)
  | 6 => ("CitingLettersModel", "knots", "I", false)
  | 7 => ("CitingLettersModel", "counted", "I", false)
  | 8 => ("CitingLettersModel", "isRound", "[Z", true)
  | 9 => ("CitingLettersModel", "by", "[I", true)
  | 10 => ("CitingLettersModel", "begins", "[I", true)
  | 11 => ("CitingLettersModel", "habits", "I", false)
  | 12 => ("CitingLettersModel", "habitsNew", "I", false)
  | 13 => ("CitingLettersModel", "rule", "[I", true)
  | 14 => ("CitingLettersModel", "ruled", "I", false)
  | 15 => ("CitingLettersModel", "lines", "I", false)
  | 16 => ("CitingLettersModel", "size", "I", false)
  | 17 => ("CitingLettersModel", "at", "I", false)
  | 18 => ("CitingLettersModel", "place", "I", false)
  | 19 => ("CitingLettersModel", "sort", "I", false)
  | 20 => ("CitingLettersModel", "value", "I", false)
  | 21 => ("CitingLettersModel", "fault", "I", false)
  | 22 => ("CitingLettersModel", "faultPlace", "I", false)
  | 23 => ("CitingLettersModel", "lastFault", "I", false)
  | 24 => ("CitingLettersModel", "lastPlace", "I", false)
  | 25 => ("CitingLettersModel", "pile", "[I", true)
  | 26 => ("CitingLettersModel", "piled", "I", false)
  | 27 => ("CitingLettersModel", "open", "I", false)
  | 28 => ("CitingLettersModel", "names", "[I", true)
  | 29 => ("CitingLettersModel", "worked", "[I", true)
  | 30 => ("CitingLettersModel", "workedMany", "I", false)
  | 31 => ("CitingLettersModel", "today", "I", false)
  | 32 => ("CitingLettersModel", "ways", "[I", true)
  | 33 => ("CitingLettersModel", "letters", "I", false)
  | 34 => ("CitingLettersModel", "writer", "[I", true)
  | 35 => ("CitingLettersModel", "day", "[I", true)
  | 36 => ("CitingLettersModel", "kind", "[I", true)
  | 37 => ("CitingLettersModel", "to", "[I", true)
  | 38 => ("CitingLettersModel", "one", "[I", true)
  | 39 => ("CitingLettersModel", "other", "[I", true)
  | 40 => ("CitingLettersModel", "direct", "[I", true)
  | 41 => ("CitingLettersModel", "before", "[I", true)
  | 42 => ("CitingLettersModel", "isBurnt", "[Z", true)
  | 43 => ("CitingLettersModel", "burnt", "I", false)
  | 44 => ("CitingLettersModel", "copies", "I", false)
  | 45 => ("CitingLettersModel", "copyOf", "[I", true)
  | 46 => ("CitingLettersModel", "copyFrom", "[I", true)
  | 47 => ("CitingLettersModel", "copyTo", "[I", true)
  | 48 => ("CitingLettersModel", "copyDay", "[I", true)
  | 49 => ("CitingLettersModel", "copyState", "[I", true)
  | 50 => ("CitingLettersModel", "half", "I", false)
  | 51 => ("CitingLettersModel", "splitFrom", "I", false)
  | 52 => ("CitingLettersModel", "splitTo", "I", false)
  | 53 => ("CitingLettersModel", "known", "[I", true)
  | 54 => ("CitingLettersModel", "since", "[I", true)
  | 55 => ("CitingLettersModel", "desk", "[I", true)
  | 56 => ("CitingLettersModel", "held", "[I", true)
  | 57 => ("CitingLettersModel", "reads", "I", false)
  | 58 => ("CitingLettersModel", "steps", "[I", true)
  | 59 => ("CitingLettersModel", "sums", "[I", true)
  | 60 => ("CitingLettersModel", "told", "[I", true)
  | 61 => ("CitingLettersModel", "behind", "[I", true)
  | 62 => ("CitingLettersModel", "seen", "I", false)
  | 63 => ("CitingLettersModel", "least", "[I", true)
  | 64 => ("CitingLettersModel", "pairs", "I", false)
  | 65 => ("CitingLettersModel", "ahead", "[I", true)
  | 66 => ("CitingLettersModel", "after", "[I", true)
  | 67 => ("CitingLettersModel", "many", "I", false)
  | 68 => ("CitingLettersModel", "of", "[I", true)
  | 69 => ("CitingLettersModel", "needs", "[I", true)
  | _ => ("CitingLettersModel", "orders", "[I", true)
def jtM : Nat → FieldType := fun k => match k with
  | 0 => .int
  | 1 => (.array .int)
  | 2 => .int
  | 3 => (.array .int)
  | 4 => (.array .int)
  | 5 => .int
  | 6 => .int
  | 7 => .int
  | 8 => (.array .boolean)
  | 9 => (.array .int)
  | 10 => (.array .int)
  | 11 => .int
  | 12 => .int
  | 13 => (.array .int)
  | 14 => .int
  | 15 => .int
  | 16 => .int
  | 17 => .int
  | 18 => .int
  | 19 => .int
  | 20 => .int
  | 21 => .int
  | 22 => .int
  | 23 => .int
  | 24 => .int
  | 25 => (.array .int)
  | 26 => .int
  | 27 => .int
  | 28 => (.array .int)
  | 29 => (.array .int)
  | 30 => .int
  | 31 => .int
  | 32 => (.array .int)
  | 33 => .int
  | 34 => (.array .int)
  | 35 => (.array .int)
  | 36 => (.array .int)
  | 37 => (.array .int)
  | 38 => (.array .int)
  | 39 => (.array .int)
  | 40 => (.array .int)
  | 41 => (.array .int)
  | 42 => (.array .boolean)
  | 43 => .int
  | 44 => .int
  | 45 => (.array .int)
  | 46 => (.array .int)
  | 47 => (.array .int)
  | 48 => (.array .int)
  | 49 => (.array .int)
  | 50 => .int
  | 51 => .int
  | 52 => .int
  | 53 => (.array .int)
  | 54 => (.array .int)
  | 55 => (.array .int)
  | 56 => (.array .int)
  | 57 => .int
  | 58 => (.array .int)
  | 59 => (.array .int)
  | 60 => (.array .int)
  | 61 => (.array .int)
  | 62 => .int
  | 63 => (.array .int)
  | 64 => .int
  | 65 => (.array .int)
  | 66 => (.array .int)
  | 67 => .int
  | 68 => (.array .int)
  | 69 => (.array .int)
  | _ => (.array .int)
theorem jtM_ok : ∀ k, k < 71 → parseFieldDescriptor (jTM k).2.2.1 = some (jtM k) := by decide +kernel
theorem jnM_ok : ∀ a, a < 71 → ∀ b, b < 71 → a ≠ b → (jTM a).2.1 ≠ (jTM b).2.1 := by decide +kernel
def jcl : List vw_C := [("CitingLetters", jTC, 13), ("CitingLetters$Habits", jTH, 13), ("CitingLetters$TextReader", jTR, 13), ("CitingLetters$Scanner", jTS, 6), ("CitingLetters$Ledger", jTL, 17), ("CitingLetters$Post", jTP, 11), ("CitingLetters$Desks", jTD, 5), ("CitingLetters$Doubts", jTU, 2), ("CitingLetters$Chains", jTN, 5), ("CitingLetters$Orders", jTO, 10), ("CitingLettersModel", jTM, 71)]
def jkL : List (List Nat) := [[1, 0, 2, 2, 1, 1, 0, 1, 1, 1, 1, 1, 1], [1, 0, 0, 1, 1, 1, 1, 0, 1, 1, 0, 0, 1], [1, 0, 2, 0, 0, 0, 2, 1, 0, 0, 1, 0, 0], [1, 0, 1, 1, 1, 0], [1, 1, 1, 1, 1, 1, 1, 1, 1, 1, 1, 1, 1, 1, 1, 0, 0], [1, 1, 0, 0, 0, 1, 1, 1, 1, 1, 0], [1, 1, 1, 1, 1], [1, 1], [1, 1, 1, 1, 1], [1, 1, 1, 0, 1, 1, 0, 1, 1, 1], [0, 1, 0, 1, 1, 0, 0, 0, 1, 1, 1, 0, 0, 1, 0, 0, 0, 0, 0, 0, 0, 0, 0, 0, 0, 1, 0, 0, 1, 1, 0, 0, 1, 0, 1, 1, 1, 1, 1, 1, 1, 1, 1, 0, 0, 1, 1, 1, 1, 1, 0, 0, 0, 1, 1, 1, 1, 0, 1, 1, 1, 1, 0, 1, 0, 1, 1, 0, 1, 1, 1]]
def jshL : List (Nat × Nat) := [(9, 0), (0, 0), (1, 400), (0, 1), (4, 6), (2, 8), (1, 8), (1, 8), (1, 8), (4, 64), (1, 64), (1, 64), (0, 1), (4, 6), (2, 8), (1, 8), (1, 8), (1, 8), (4, 64), (1, 64), (1, 64), (0, 2), (4, 72), (2, 9), (0, 3), (4, 401), (1, 401), (1, 401), (1, 7), (0, 4), (1, 30), (1, 30), (1, 30), (1, 30), (1, 30), (1, 30), (1, 30), (1, 30), (1, 30), (1, 30), (1, 30), (1, 30), (1, 6), (1, 6), (1, 30), (0, 5), (3, 6), (1, 6), (1, 6), (1, 6), (1, 6), (1, 6), (1, 6), (3, 6), (1, 6), (1, 6), (1, 6), (1, 6), (1, 6), (1, 6), (1, 150), (1, 150), (1, 150), (1, 150), (1, 150), (0, 6), (3, 6), (1, 30), (1, 30), (1, 30), (1, 30), (1, 30), (1, 30), (1, 6), (1, 6), (1, 6), (3, 6), (1, 30), (1, 30), (1, 30), (1, 30), (1, 30), (1, 30), (0, 7), (0, 8), (1, 30), (1, 30), (1, 30), (1, 30), (0, 9), (1, 12), (1, 12), (1, 12), (1, 12), (1, 4096), (1, 4096), (3, 12), (1, 12), (1, 12), (1, 12), (1, 12), (1, 12), (1, 12), (1, 12), (1, 12), (1, 12), (1, 12), (1, 12), (1, 12), (0, 10), (1, 400), (1, 128), (1, 128), (2, 18), (1, 18), (1, 18), (1, 12), (1, 96), (1, 7), (1, 72), (1, 36), (1, 30), (1, 30), (1, 30), (1, 30), (1, 30), (1, 30), (1, 30), (1, 30), (2, 30), (1, 150), (1, 150), (1, 150), (1, 150), (1, 150), (1, 6), (1, 180), (1, 180), (1, 6), (1, 30), (1, 30), (1, 30), (1, 30), (1, 36), (1, 12), (1, 12), (1, 12), (1, 12), (1, 4096), (5, 1)]
def jfxL : List (List Nat) := [[], [2, 0, 0, 0, 21, 28, 0, 29, 45, 65, 83, 84, 89], [], [4, 0, 0, 5, 6, 7, 8, 0, 9, 10, 0, 0, 11], [], [], [], [], [], [], [], [], [13, 0, 0, 14, 15, 16, 17, 0, 18, 19, 0, 0, 20], [], [], [], [], [], [], [], [], [24, 0, 0, 0, 0, 0, 0, 22, 0, 0, 23, 0, 0], [], [], [2, 0, 25, 26, 27, 0], [], [], [], [], [30, 31, 32, 33, 34, 35, 36, 37, 38, 39, 40, 41, 42, 43, 44, 0, 0], [], [], [], [], [], [], [], [], [], [], [], [], [], [], [], [46, 53, 0, 0, 0, 60, 61, 62, 63, 64, 0], [47, 48, 49, 50, 51, 52], [], [], [], [], [], [], [54, 55, 56, 57, 58, 59], [], [], [], [], [], [], [], [], [], [], [], [66, 73, 74, 75, 76], [67, 68, 69, 70, 71, 72], [], [], [], [], [], [], [], [], [], [77, 78, 79, 80, 81, 82], [], [], [], [], [], [], [29, 45], [29, 85, 86, 87, 88], [], [], [], [], [29, 90, 91, 0, 92, 93, 0, 94, 95, 96], [], [], [], [], [], [], [97, 98, 99, 100, 101, 102, 103, 104, 105, 106, 107, 108], [], [], [], [], [], [], [], [], [], [], [], [], [0, 110, 0, 111, 112, 0, 0, 0, 113, 114, 115, 0, 0, 116, 0, 0, 0, 0, 0, 0, 0, 0, 0, 0, 0, 117, 0, 0, 118, 119, 0, 0, 120, 0, 121, 122, 123, 124, 125, 126, 127, 128, 129, 0, 0, 130, 131, 132, 133, 134, 0, 0, 0, 135, 136, 137, 138, 0, 139, 140, 141, 142, 0, 143, 0, 144, 145, 0, 146, 147, 148], [], [], [], [], [], [], [], [], [], [], [], [], [], [], [], [], [], [], [], [], [], [], [], [], [], [], [], [], [], [], [], [], [], [], [], [], [], [], [], []]
def jKall : Nat := 149
abbrev jMem : Type := Nat → Nat → Int32
/-- one place of the memory is written -/
def jup (M : jMem) (c k : Nat) (v : Int32) : jMem := fun c' k' => if c' = c ∧ k' = k then v else M c' k'
/-- what is fixed for a whole run: the launch, the cells' addresses, the classes' numbers, the arrays' classes, where the old heap ends, the state at the start, how many cells there are, the references that stay -/
abbrev jG : Type := Launch × (Nat → Nat) × va_G × (Nat → ClassId) × Nat × State × Nat × (Nat → Nat → Nat)
abbrev jl (G : jG) : Launch := G.1
abbrev jad (G : jG) : Nat → Nat := G.2.1
abbrev jD (G : jG) : va_G := G.2.2.1
abbrev jcA (G : jG) : Nat → ClassId := G.2.2.2.1
abbrev jL (G : jG) : Nat := G.2.2.2.2.1
abbrev js0 (G : jG) : State := G.2.2.2.2.2.1
abbrev jK (G : jG) : Nat := G.2.2.2.2.2.2.1
abbrev jF (G : jG) : Nat → Nat → Nat := G.2.2.2.2.2.2.2
abbrev jA (G : jG) : Nat → Prop := fun q => jL G ≤ q
def jtag (c : Nat) : Nat := (jshL.getD c (9, 0)).1
def jpar (c : Nat) : Nat := (jshL.getD c (9, 0)).2
def jkd (ci k : Nat) : Nat := (jkL.getD ci []).getD k 0
def jnf (ci : Nat) : Nat := (jkL.getD ci []).length
def jfx (c k : Nat) : Nat := (jfxL.getD c []).getD k 0
/-- how long an array of a kind is: 0 if it is none -/
def jlen (t c : Nat) : Nat := if jtag c = t then jpar c else 0
def jro (G : jG) (n : Nat) : Option Nat := if n = 0 then none else some (jad G n)
def jr (G : jG) (n : Nat) : Value := va_rf (jro G n)
def jfv (G : jG) (M : jMem) (c k kd : Nat) : Value := match kd with
  | 0 => .int (M c k)
  | 1 => jr G (jF G c k)
  | _ => jr G (M c k).toNatClampNeg
def jent (G : jG) (M : jMem) (c : Nat) : va_E := match jtag c with
  | 0 => .inr (jpar c, (List.range (jnf (jpar c))).map (fun k => jfv G M c k (jkd (jpar c) k)))
  | 1 => .inl (jcA G 0, jpar c, .inl (M c))
  | 2 => .inl (jcA G 1, jpar c, .inl (M c))
  | 3 => .inl (jcA G 2, jpar c, .inr (.inr (.inr (.inr (fun i => jro G (jF G c i))))))
  | 4 => .inl (jcA G 3, jpar c, .inr (.inr (.inr (.inr (fun i => jro G (M c i).toNatClampNeg)))))
  | _ => .inl (jcA G 4, jpar c, .inr (.inl (fun i => (M c i).toInt64)))
def jwl (G : jG) (M : jMem) : va_W := (List.range (jK G)).map (fun i => (jad G (i + 1), jent G M (i + 1)))
def jtys (G : jG) : List (ClassId × FieldType) := [(jcA G 0, .int), (jcA G 1, .boolean), (jcA G 2, .array .int), (jcA G 3, .object "CitingLetters$Token"), (jcA G 4, .long)]
def jtokN : List String := ["END", "BAD", "NUMBER", "SEMICOLON", "OPEN", "CLOSE", "READ", "ANSWER", "ROUND", "BY", "HAND", "COMES", "FIRST", "ANSWERS", "SEEN", "FROM", "KIND", "AGE", "KNOWN", "SUM", "MANY", "MINE", "OR", "AND", "NOT", "LESS", "AT_MOST", "EQUAL", "UNLIKE", "AT_LEAST", "MORE", "PLUS", "MINUS"]
def jtokP : List Int32 := [0, 0, 0, 0, 0, 0, 0, 0, 0, 0, 1, 1, 1, 1, 1, 2, 2, 2, 2, 2, 2, 2, 3, 3, 0, 3, 3, 3, 3, 3, 3, 3, 3]
def jtokR : List Int32 := [0, 0, 0, 0, 0, 0, 0, 0, 0, 0, 0, 0, 0, 0, 0, 0, 1, 2, 3, 4, 5, 6, 1, 2, 3, 4, 4, 4, 4, 4, 4, 5, 5]
def jtokO : List Int32 := [0, 1, 2, 3, 4, 5, 6, 7, 8, 9, 10, 11, 12, 13, 14, 15, 16, 17, 18, 19, 20, 21, 22, 23, 24, 25, 26, 27, 28, 29, 30, 31, 32]
def jtokF : List (String × String × String × List Int32) := [("java/lang/Enum", "ordinal", "I", jtokO), ("CitingLetters$Token", "part", "I", jtokP), ("CitingLetters$Token", "rank", "I", jtokR)]
def jstL : List (String × Nat × String) := [("CitingLetters", 167, "no such letter"), ("CitingLetters", 192, "no such thing of a letter"), ("CitingLettersModel", 167, "read answer round by hand comes first answers seen or and not from kind age known sum many mine "), ("CitingLetters$Token", 134, ""), ("CitingLetters$Token", 151, "read"), ("CitingLetters$Token", 142, ";"), ("CitingLetters$Token", 154, "answer"), ("CitingLetters$Token", 157, "round"), ("CitingLetters$Token", 145, "("), ("CitingLetters$Token", 205, "not"), ("CitingLetters$Token", 148, ")"), ("CitingLetters$Token", 160, "by"), ("CitingLetters$Token", 166, "comes"), ("CitingLetters$Token", 163, "hand"), ("CitingLetters$Token", 169, "first"), ("CitingLetters$Token", 172, "answers"), ("CitingLetters$Token", 175, "seen"), ("CitingLetters$Token", 178, "from"), ("CitingLetters$Token", 181, "kind"), ("CitingLetters$Token", 184, "age"), ("CitingLetters$Token", 187, "known"), ("CitingLetters$Token", 190, "sum"), ("CitingLetters$Token", 193, "many"), ("CitingLetters$Token", 196, "mine"), ("CitingLetters$Token", 199, "or"), ("CitingLetters$Token", 202, "and"), ("CitingLetters$Token", 208, "<"), ("CitingLetters$Token", 211, "<="), ("CitingLetters$Token", 214, "="), ("CitingLetters$Token", 217, "<>"), ("CitingLetters$Token", 220, ">="), ("CitingLetters$Token", 223, ">"), ("CitingLetters$Token", 226, "+"), ("CitingLetters$Token", 229, "-")]
def jstB : List (List Int32) := [[110, 111, 32, 115, 117, 99, 104, 32, 108, 101, 116, 116, 101, 114], [110, 111, 32, 115, 117, 99, 104, 32, 116, 104, 105, 110, 103, 32, 111, 102, 32, 97, 32, 108, 101, 116, 116, 101, 114], [114, 101, 97, 100, 32, 97, 110, 115, 119, 101, 114, 32, 114, 111, 117, 110, 100, 32, 98, 121, 32, 104, 97, 110, 100, 32, 99, 111, 109, 101, 115, 32, 102, 105, 114, 115, 116, 32, 97, 110, 115, 119, 101, 114, 115, 32, 115, 101, 101, 110, 32, 111, 114, 32, 97, 110, 100, 32, 110, 111, 116, 32, 102, 114, 111, 109, 32, 107, 105, 110, 100, 32, 97, 103, 101, 32, 107, 110, 111, 119, 110, 32, 115, 117, 109, 32, 109, 97, 110, 121, 32, 109, 105, 110, 101, 32], [], [114, 101, 97, 100], [59], [97, 110, 115, 119, 101, 114], [114, 111, 117, 110, 100], [40], [110, 111, 116], [41], [98, 121], [99, 111, 109, 101, 115], [104, 97, 110, 100], [102, 105, 114, 115, 116], [97, 110, 115, 119, 101, 114, 115], [115, 101, 101, 110], [102, 114, 111, 109], [107, 105, 110, 100], [97, 103, 101], [107, 110, 111, 119, 110], [115, 117, 109], [109, 97, 110, 121], [109, 105, 110, 101], [111, 114], [97, 110, 100], [60], [60, 61], [61], [60, 62], [62, 61], [62], [43], [45]]
def jstN : List Nat := [14, 25, 96, 0, 4, 1, 6, 5, 1, 3, 1, 2, 5, 4, 5, 7, 4, 4, 4, 3, 5, 3, 4, 4, 2, 3, 1, 2, 1, 2, 2, 1, 1, 1]
/-- which text spells each token -/
def jspL : List Nat := [3, 3, 3, 5, 8, 10, 4, 6, 7, 11, 13, 12, 14, 15, 16, 17, 18, 19, 20, 21, 22, 23, 24, 25, 9, 26, 27, 28, 29, 30, 31, 32, 33]
def jswL : List Int32 := [0, 0, 0, 0, 0, 0, 0, 0, 0, 0, 0, 0, 0, 0, 0, 0, 0, 0, 0, 0, 0, 0, 1, 2, 0, 3, 4, 5, 6, 7, 8, 9, 0]
/-- what the start holds for good: the enum's constants, the texts' signs, the two tables, two statics of the library -/
def jCo (G : jG) (U : State) (H : Heap) : Prop :=
  va_En "CitingLetters$Token" "LCitingLetters$Token;" jtokN jtokF (fun i => jad G (1001 + i)) (jA G) U H ∧
  (∀ i, i < 34 → va_O "java/lang/String" (jad G (2001 + i)) (jA G) U H ∧ va_OF "java/lang/String" "coder" "B" (.int 0) (jad G (2001 + i)) (jA G) U H ∧ va_OF "java/lang/String" "value" "[B" (.ref (jad G (3001 + i))) (jad G (2001 + i)) (jA G) U H ∧ va_T .byte (jad G (3001 + i)) (jstN.getD i 0) (fun j => .int ((jstB.getD i []).getD j 0)) (jA G) U H) ∧
  va_Ef 33 "CitingLetters$Token" "spelling" "Ljava/lang/String;" (fun i => .ref (jad G (2001 + jspL.getD i 0))) (fun i => jad G (1001 + i)) (jA G) U H ∧
  (va_Z "CitingLetters$Token" "EACH" "[LCitingLetters$Token;" (.ref (jad G 4001)) (jA G) U H ∧ va_T (.object "CitingLetters$Token") (jad G 4001) 33 (fun j => .ref (jad G (1001 + j))) (jA G) U H) ∧
  (va_Z "CitingLetters$1" "$SwitchMap$CitingLetters$Token" "[I" (.ref (jad G 4002)) (jA G) U H ∧ va_T .int (jad G 4002) 33 (fun j => .int (jswL.getD j 0)) (jA G) U H) ∧
  va_Z "java/lang/String" "COMPACT_STRINGS" "Z" (.int 1) (jA G) U H ∧
  va_Zq "jdk/internal/util/Preconditions" "SIOOBE_FORMATTER" "Ljava/util/function/BiFunction;" (jA G) U H
theorem jCo.moved {G : jG} {u U : State} {H : Heap} (hvm : u.vm.Alike U.vm) (h : jCo G u H) : jCo G U H := by
  obtain ⟨h1, h2, h3, ⟨h4, h5⟩, ⟨h6, h7⟩, h8, h9⟩ := h
  exact ⟨va_En.moved hvm h1, fun i hi => ⟨va_O.moved hvm (h2 i hi).1, va_OF.moved hvm (h2 i hi).2.1, va_OF.moved hvm (h2 i hi).2.2.1, va_T.moved hvm (h2 i hi).2.2.2⟩, va_Ef.moved hvm h3, ⟨va_Z.moved hvm h4, va_T.moved hvm h5⟩, ⟨va_Z.moved hvm h6, va_T.moved hvm h7⟩, va_Z.moved hvm h8, va_Zq.moved hvm h9⟩
theorem jCo.kept {G : jG} {U : State} {H H1 : Heap} (h : jCo G U H) (hq : ∀ a : Nat, a < H.size → ¬ jA G a → H1[a]? = H[a]?) : jCo G U H1 := by
  obtain ⟨h1, h2, h3, ⟨h4, h5⟩, ⟨h6, h7⟩, h8, h9⟩ := h
  exact ⟨h1.kept hq, fun i hi => ⟨(h2 i hi).1.kept hq, (h2 i hi).2.1.kept hq, (h2 i hi).2.2.1.kept hq, (h2 i hi).2.2.2.kept hq⟩, h3.kept hq, ⟨h4.kept hq, h5.kept hq⟩, ⟨h6.kept hq, h7.kept hq⟩, h8.kept hq, h9.kept hq⟩
def jCon (G : jG) : Prop := jCo G (js0 G) (js0 G).heap
def jGl (G : jG) : Prop := va_K (jD G) jcl (jtys G) (js0 G) ∧ (∀ i j, i < jK G → j < jK G → jad G (i + 1) = jad G (j + 1) → i = j) ∧ (∀ i, i < jK G → jL G ≤ jad G (i + 1)) ∧ jL G = (js0 G).heap.size ∧ jCon G
/-- the heap holds the memory -/
def jWd (G : jG) (M : jMem) (H : Heap) : Prop := va_P (jD G) jcl (jwl G M) H ∧ jL G ≤ H.size ∧ ∀ q : Nat, q < jL G → H[q]? = (js0 G).heap[q]?
/-- a method: its name, bytes, places, what it returns; how deep it calls; cells and slots made by now -/
abbrev jY : Type := MethodName × ByteArray × Nat × Option FieldType × Nat × Nat × Nat
abbrev jy (Y : jY) : MethodName := Y.1
abbrev jcc (Y : jY) : ByteArray := Y.2.1
abbrev jnL (Y : jY) : Nat := Y.2.2.1
abbrev jret (Y : jY) : Option FieldType := Y.2.2.2.1
abbrev jd (Y : jY) : Nat := Y.2.2.2.2.1
abbrev jcs (Y : jY) : Nat := Y.2.2.2.2.2.1
abbrev jss (Y : jY) : Nat := Y.2.2.2.2.2.2
def jrm (d mc ms : Nat) : Room := { frames := d + 1, cells := mc, slots := ms, locals := 40 * d + 60 }
def jw : List Cond := lw_tbl.filter goodWord
def jws (Y : jY) : List Cond := Cond.code (jy Y) (jcc Y) (jnL Y) (jret Y) :: jw
/-- the links to private members of nest mates: they aren't words that stay by themselves, each state is told them -/
def jisN : Cond → Bool
  | .fieldLinkNest .. => true
  | .methodLinkNest .. => true
  | _ => false
def jnest : List Cond := tables_1.filter jisN
theorem jnest_warm {s U : State} (hW : s.WarmedH U.vm) (h : ∀ w ∈ jnest, va_Nw w s) : ∀ w ∈ jnest, va_Nw w U := by
  intro w hw
  have h1 := h w hw
  have h2 := (List.mem_filter.mp hw).2
  cases w <;> first | exact absurd h2 (by unfold jisN; exact Bool.false_ne_true) | exact va_Nw.warmF hW h1 | exact va_Nw.warmM hW h1
/-- what is said of each state's tables: the nest mates' links, and where the texts of constants lie -/
def jSt (G : jG) (U : State) : Prop := (∀ w ∈ jnest, va_Nw w U) ∧ (∀ i, i < 3 → vk_R (jstL.getD i ("", 0, "")).1 (jstL.getD i ("", 0, "")).2.1 (jstL.getD i ("", 0, "")).2.2 (jad G (2001 + i)) U)
theorem jSt.warm {G : jG} {s U : State} (hW : s.WarmedH U.vm) (h : jSt G s) : jSt G U := ⟨jnest_warm hW h.1, fun i hi => (h.2 i hi).warm hW⟩
theorem jSt.same {G : jG} {u U : State} (hv : U.vm = u.vm) (h : jSt G u) : jSt G U := ⟨fun w hw => va_Nw.same (by have h9 := (List.mem_filter.mp hw).2; cases w <;> first | rfl | exact absurd h9 (by unfold jisN; exact Bool.false_ne_true)) hv.symm (h.1 w hw), fun i hi => (h.2 i hi).same hv⟩
abbrev jFx (G : jG) (Y : jY) (p : Program) (s : State) (m : MethodId) (args : Array Value) (meth : Method) (c : Code) : Prop :=
  p.tables.exec = Jvm.exec ∧ c.code = jcc Y ∧ c.maxLocals = jnL Y ∧ s.vm.findClass (jy Y).cls = some m.cls ∧ (∀ w ∈ jw, w.before args s = true) ∧ meth.sig.returnType = jret Y ∧ meth.locks = false ∧ (js0 G).vm.Alike s.vm ∧ jL G ≤ s.heap.size ∧ jGl G ∧ jSt G s
abbrev jRes : Type := Option Value × jMem
def jQc (G : jG) (R : jRes) : Array Value → State → Outcome → State → Prop := fun _ st o t => o = .returned R.1 ∧ jWd G R.2 t.heap ∧ st.heap.size ≤ t.heap.size
/-- a room that has what the method asks -/
def jFit (Y : jY) (rm : Room) : Prop := jd Y + 1 ≤ rm.frames ∧ jcs Y ≤ rm.cells ∧ jss Y ≤ rm.slots ∧ 40 * jd Y + 60 ≤ rm.locals
abbrev jQT : Type := List Frame → Array Value → State → State → Prop
/-- from a place of a method, with these locals, this stack and this memory, the machine comes to Q -/
def JQ (G : jG) (Y : jY) (pc : Nat) (ls : List (Nat × Value)) (st : List Value) (M : jMem) (Q : jQT) : Prop :=
  ∀ (p : Program) (e : Env) (s : State) (m : MethodId) (args : Array Value) (below : List Frame) (meth : Method) (c : Code) (H : Heap) (locs : List Loc) (la : Array Slot) (rm : Room),
    jFx G Y p s m args meth c → jFit Y rm → jWd G M H → va_S (jA G) s.heap H locs → lv_has la (jnL Y) ls →
    W p (jl G) e rm s m args below meth c H locs (jcs Y) (jss Y) (Q below args s) (F0 m pc la st)
/-- .. the method comes to its end with R -/
abbrev jQof (G : jG) (Y : jY) (R : jRes) : jQT := fun below args s => MQ below (jQc G R) args s (jcs Y) (jss Y) (jA G)
abbrev J (G : jG) (Y : jY) (pc : Nat) (ls : List (Nat × Value)) (st : List Value) (M : jMem) (R : jRes) : Prop := JQ G Y pc ls st M (jQof G Y R)
def jPc (G : jG) (av : List Value) (M : jMem) : Array Value → State → Prop := fun a U => a = av.toArray ∧ jWd G M U.heap ∧ (js0 G).vm.Alike U.vm ∧ jSt G U
/-- what a call of a method does -/
def jCt (G : jG) (Y : jY) (av : List Value) (M : jMem) (R : jRes) : Prop :=
  jGl G → Met (jl G) (jy Y) (jws Y) (jrm (jd Y) (jcs Y) (jss Y)) (jPc G av M) (jQc G R) (jcs Y) (jss Y) (jA G)
theorem jw_in {w : Cond} (h : w ∈ lw_tbl) (g : goodWord w = true) : w ∈ jw := List.mem_filter.mpr ⟨h, g⟩
theorem jw_good {w : Cond} (h : w ∈ jw) : (w.onTables && w.keeps) = true ∨ ∃ ty, w = .arrayClass ty := good_of_word (List.mem_filter.mp h).2
theorem jws_GI {Y : jY} (h : Cond.code (jy Y) (jcc Y) (jnL Y) (jret Y) ∈ jw) : GoodIn jw (jws Y) := fun w hw => by
  rcases List.mem_cons.mp hw with rfl | hw
  · exact ⟨h, jw_good h⟩
  · exact ⟨hw, jw_good hw⟩
/-- the tables' words that a call of a method wants -/
def jMi (y : MethodName) (cc : ByteArray) (nL : Nat) (ret : Option FieldType) (n : Nat) : Prop :=
  Cond.code y cc nL ret ∈ jw ∧ Cond.initialized y.cls ∈ jw ∧ (y.cls ≠ "java/lang/invoke/MethodHandle" ∧ y.cls ≠ "java/lang/invoke/VarHandle" ∧ (parseMethodDescriptor y.desc).map (fun d => d.parameters.length) = some n) ∧ nL ≤ 21 ∧ plainName y.cls = true
def jMv (y : MethodName) : Prop := Cond.instanceMethod y ∈ jw ∧ Cond.selects y.cls y y ∈ jw
def jMs (y : MethodName) : Prop := Cond.static y ∈ jw
/-- a call's link -/
def jLk (own : String) (index : Nat) (y : MethodName) : Prop := Cond.methodLink own index y ∈ jw ∨ ∃ host, Cond.methodLinkNest own index y host ∈ jnest
theorem jFx.K {G : jG} {Y : jY} {p : Program} {s : State} {m : MethodId} {args : Array Value} {meth : Method} {c : Code} (h : jFx G Y p s m args meth c) : va_K (jD G) jcl (jtys G) s := va_K.moved h.2.2.2.2.2.2.2.1 h.2.2.2.2.2.2.2.2.2.1.1
theorem jFx.gl {G : jG} {Y : jY} {p : Program} {s : State} {m : MethodId} {args : Array Value} {meth : Method} {c : Code} (h : jFx G Y p s m args meth c) : jGl G := h.2.2.2.2.2.2.2.2.2.1
theorem jFx.ne {G : jG} {Y : jY} {p : Program} {s : State} {m : MethodId} {args : Array Value} {meth : Method} {c : Code} (h : jFx G Y p s m args meth c) {w : Cond} (hw : w ∈ jnest) : va_Nw w s := h.2.2.2.2.2.2.2.2.2.2.1 w hw
theorem jFx.stt {G : jG} {Y : jY} {p : Program} {s : State} {m : MethodId} {args : Array Value} {meth : Method} {c : Code} (h : jFx G Y p s m args meth c) : jSt G s := h.2.2.2.2.2.2.2.2.2.2
theorem jwl_at {G : jG} {M : jMem} {c : Nat} (h0 : 0 < c) (h1 : c ≤ jK G) : (jwl G M)[c - 1]? = some (jad G c, jent G M c) := by
  unfold jwl
  rw [List.getElem?_map, List.getElem?_range (by omega)]
  show some (jad G (c - 1 + 1), jent G M (c - 1 + 1)) = _
  rw [Nat.sub_add_cancel h0]
theorem jmap_set {α : Type} {f g : Nat → α} {n i : Nat} {e : α} (he : g i = e) (ho : ∀ j, j ≠ i → g j = f j) : ((List.range n).map f).set i e = (List.range n).map g := by
  apply List.ext_getElem?
  intro k
  rw [List.getElem?_set, List.getElem?_map, List.length_map, List.length_range, List.getElem?_map]
  by_cases hi : i = k
  · subst hi
    rw [if_pos rfl]
    by_cases hl : i < n
    · rw [if_pos hl, List.getElem?_range hl, Option.map_some, he]
    · rw [if_neg hl, List.getElem?_eq_none (by rw [List.length_range]; omega), Option.map_none]
  · rw [if_neg hi]
    by_cases hl : k < n
    · rw [List.getElem?_range hl, Option.map_some, Option.map_some, ho k (Ne.symm hi)]
    · rw [List.getElem?_eq_none (by rw [List.length_range]; omega), Option.map_none, Option.map_none]
theorem jwl_set {G : jG} {M M' : jMem} {c : Nat} {e : va_E} (h0 : 0 < c) (he : jent G M' c = e) (ho : ∀ c', c' ≠ c → jent G M' c' = jent G M c') : (jwl G M).set (c - 1) (jad G c, e) = jwl G M' := by
  refine jmap_set (g := fun i => (jad G (i + 1), jent G M' (i + 1))) ?_ (fun j hj => ?_)
  · have hc : c - 1 + 1 = c := Nat.sub_add_cancel h0
    simp only [hc, he]
  · have h1 : j + 1 ≠ c := by omega
    simp only [ho (j + 1) h1]
theorem jwl_D {G : jG} {M : jMem} (h : jGl G) : va_D (jA G) (jwl G M) := by
  refine ⟨fun i j p q hi hj e => ?_, fun k q hk => ?_⟩
  · have li : i < jK G := by
      have := (List.getElem?_eq_some_iff.mp hi).1
      simpa [jwl] using this
    have lj : j < jK G := by
      have := (List.getElem?_eq_some_iff.mp hj).1
      simpa [jwl] using this
    unfold jwl at hi hj
    rw [List.getElem?_map, List.getElem?_range li] at hi
    rw [List.getElem?_map, List.getElem?_range lj] at hj
    cases hi
    cases hj
    exact h.2.1 i j li lj e
  · have lk : k < jK G := by
      have := (List.getElem?_eq_some_iff.mp hk).1
      simpa [jwl] using this
    unfold jwl at hk
    rw [List.getElem?_map, List.getElem?_range lk] at hk
    cases hk
    exact h.2.2.1 k lk
theorem jup_ne {M : jMem} {c k : Nat} {v : Int32} {c' : Nat} (h : c' ≠ c) : jup M c k v c' = M c' := by
  funext k'
  exact if_neg (fun q => h q.1)
theorem jup_row {M : jMem} {c k : Nat} {v : Int32} : jup M c k v c = upd (M c) k v := by
  funext k'
  unfold jup upd
  by_cases h : k' = k
  · rw [if_pos ⟨rfl, h⟩, if_pos h]
  · rw [if_neg (fun q => h q.2), if_neg h]
theorem jent_ne {G : jG} {M M' : jMem} {c : Nat} (h : M' c = M c) : jent G M' c = jent G M c := by
  unfold jent jfv
  rw [h]
