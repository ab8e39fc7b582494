/-- how many parameters a method takes, the receiver not counted -/
def am_na : List Nat := [2, 2, 0, 1, 1, 2, 0, 0, 2, 3, 2, 1, 4, 4, 0, 0, 2, 0, 1, 1, 3, 1, 1, 0, 0, 0, 4, 1, 1, 1, 1, 0, 2, 2, 2, 1, 1, 1, 1, 1, 1, 1, 1, 0, 1, 3, 0, 0, 0, 0, 2, 2, 3, 0, 0, 0, 2, 0, 1, 1, 0, 1, 0, 3, 0, 1, 0, 1, 2, 2, 2, 1, 2, 1, 1, 1, 1, 2, 2, 1, 2, 2, 2, 3, 1, 1, 1, 2, 1, 3, 1, 0, 1, 1, 1, 1, 2, 2, 2, 2, 2, 1, 2, 4, 3, 2, 1, 0, 2, 0, 0, 0, 0, 2, 0, 2, 0, 1, 0, 2, 1, 1, 1, 1, 1, 1, 0, 0, 1, 2, 0, 2, 1, 1, 1, 1, 4, 1, 1, 1, 1, 1, 1, 1, 2, 1, 1, 0, 2, 2, 0, 1, 1, 1, 1, 1, 1, 2, 0, 0, 1, 0, 2, 0, 0, 0, 1, 1, 1, 1, 1, 1, 0, 0, 0, 1, 1, 1, 3, 2, 1, 1, 1, 1, 1, 1, 0, 0, 0, 0, 2, 0, 2, 0, 1, 4, 2, 4, 4, 3, 1]
/-- Object() by own class: entry, place of the word -/
def am_or : List (List (Nat × Nat)) := [[(3, 289)], [(3, 247)], [(3, 162)], [(3, 241)], [(3, 146)], [(3, 177)], [(3, 202)], [(3, 308)], [(3, 138)], [(1, 1042)], [], [], [], []]
/-- the texts: class, entry, text -/
def am_str : List (String × Nat × String) := [("BlockFront", 66, "n is not 1 .. 8"), ("BlockFront", 79, "one is no character"), ("BlockFront", 87, "the text would be too long"), ("BlockFront$Refusal", 20, "refused"), ("BlockFront$Scanner", 145, "if"), ("BlockFront$Scanner", 151, "elif"), ("BlockFront$Scanner", 153, "else"), ("BlockFront$Scanner", 155, "while"), ("BlockFront$Scanner", 157, "def"), ("BlockFront$Scanner", 159, "return"), ("BlockFront$Scanner", 161, "pass"), ("BlockFront$Scanner", 163, "break"), ("BlockFront$Scanner", 165, "and"), ("BlockFront$Scanner", 167, "or"), ("BlockFront$Scanner", 169, "not"), ("BlockFront$Scanner", 171, "=!<>"), ("BlockFront$Scanner", 179, "+-*/%()[],:=<>.;"), ("BlockFront", 109, "the text is refused"), ("BlockFront$Writer", 68, "  "), ("BlockFront$Writer", 125, "not "), ("BlockFront$Writer", 115, ", "), ("BlockFront$Writer", 111, ":\n"), ("BlockFront$Writer", 103, "else:\n"), ("BlockFront$Writer", 113, "def "), ("BlockFront$Writer", 117, "):\n"), ("BlockFront$Writer", 119, " = "), ("BlockFront", 123, "no such token"), ("BlockFront", 136, "no such node"), ("BlockFront", 150, "no such place")]
def am_sl : List Nat := [15, 19, 26, 7, 2, 4, 4, 5, 3, 6, 4, 5, 3, 2, 3, 4, 16, 19, 2, 4, 2, 2, 6, 4, 3, 3, 13, 12, 13]
def am_sb : List (List Int32) := [[110, 32, 105, 115, 32, 110, 111, 116, 32, 49, 32, 46, 46, 32, 56], [111, 110, 101, 32, 105, 115, 32, 110, 111, 32, 99, 104, 97, 114, 97, 99, 116, 101, 114], [116, 104, 101, 32, 116, 101, 120, 116, 32, 119, 111, 117, 108, 100, 32, 98, 101, 32, 116, 111, 111, 32, 108, 111, 110, 103], [114, 101, 102, 117, 115, 101, 100], [105, 102], [101, 108, 105, 102], [101, 108, 115, 101], [119, 104, 105, 108, 101], [100, 101, 102], [114, 101, 116, 117, 114, 110], [112, 97, 115, 115], [98, 114, 101, 97, 107], [97, 110, 100], [111, 114], [110, 111, 116], [61, 33, 60, 62], [43, 45, 42, 47, 37, 40, 41, 91, 93, 44, 58, 61, 60, 62, 46, 59], [116, 104, 101, 32, 116, 101, 120, 116, 32, 105, 115, 32, 114, 101, 102, 117, 115, 101, 100], [32, 32], [110, 111, 116, 32], [44, 32], [58, 10], [101, 108, 115, 101, 58, 10], [100, 101, 102, 32], [41, 58, 10], [32, 61, 32], [110, 111, 32, 115, 117, 99, 104, 32, 116, 111, 107, 101, 110], [110, 111, 32, 115, 117, 99, 104, 32, 110, 111, 100, 101], [110, 111, 32, 115, 117, 99, 104, 32, 112, 108, 97, 99, 101]]
def am_m (M : Nat) : aM := am_ms.getD M am_m0
abbrev am_own (M : Nat) : Nat := (am_m M).1
abbrev am_y (M : Nat) : MethodName := (am_m M).2.1
abbrev am_by (M : Nat) : ByteArray := (am_m M).2.2.1
abbrev am_ml (M : Nat) : Nat := (am_m M).2.2.2.1
abbrev am_re (M : Nat) : Option FieldType := (am_m M).2.2.2.2.1
abbrev am_hs (M : Nat) : List (Nat × Nat × Nat × Nat) := (am_m M).2.2.2.2.2.1
abbrev am_co (M : Nat) : List (Nat × Instr × Nat × List Nat × Int32 × List Int32) := (am_m M).2.2.2.2.2.2
def am_ty (ci k : Nat) : FieldType := (am_tys.getD ci []).getD k .int
def am_isr (ci k : Nat) : Bool := match am_ty ci k with
  | .int => false
  | .boolean => false
  | _ => true
def am_gw (w : Jvm.Cond) : Bool := match w with
  | .fieldLinkNest .. => true
  | .methodLinkNest .. => true
  | w => goodWord w
/-- the method's own code, by a word -/
def am_w0 (M : Nat) : Jvm.Cond := match am_hs M with
  | [] => .code (am_y M) (am_by M) (am_ml M) (am_re M)
  | hs => .codeWith (am_y M) (am_by M) (am_ml M) (am_re M) hs
