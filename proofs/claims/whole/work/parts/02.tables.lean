-- written by wip/gen/gen_tables.py: the classes, the cells, the outer arrays
def kTZ : u_T := fun k => match k with
  | 0 => ("WokenByKettle", "kitchen", "LWokenByKettle$Kitchen;", true)
  | 1 => ("WokenByKettle", "paths", "LWokenByKettle$Paths;", true)
  | 2 => ("WokenByKettle", "thought", "LWokenByKettle$Thought;", true)
  | 3 => ("WokenByKettle", "chances", "LWokenByKettle$Chances;", true)
  | 4 => ("WokenByKettle", "inquest", "LWokenByKettle$Inquest;", true)
  | 5 => ("WokenByKettle", "plan", "LWokenByKettle$Plan;", true)
  | 6 => ("WokenByKettle", "deeds", "LWokenByKettle$Deeds;", true)
  | 7 => ("WokenByKettle", "changes", "LWokenByKettle$Changes;", true)
  | 8 => ("WokenByKettle", "acts", "LWokenByKettle$Acts;", true)
  | _ => ("WokenByKettle", "shelves", "LWokenByKettle$Shelves;", true)
def kYZ : Nat → FieldType := fun k => match k with
  | 0 => .object "WokenByKettle$Kitchen"
  | 1 => .object "WokenByKettle$Paths"
  | 2 => .object "WokenByKettle$Thought"
  | 3 => .object "WokenByKettle$Chances"
  | 4 => .object "WokenByKettle$Inquest"
  | 5 => .object "WokenByKettle$Plan"
  | 6 => .object "WokenByKettle$Deeds"
  | 7 => .object "WokenByKettle$Changes"
  | 8 => .object "WokenByKettle$Acts"
  | _ => .object "WokenByKettle$Shelves"
def kTK : u_T := fun k => match k with
  | 0 => ("WokenByKettle$Kitchen", "numbers", "[[I", true)
  | 1 => ("WokenByKettle$Kitchen", "named", "[I", true)
  | 2 => ("WokenByKettle$Kitchen", "rules", "LWokenByKettle$Law;", true)
  | 3 => ("WokenByKettle$Kitchen", "parts", "I", false)
  | 4 => ("WokenByKettle$Kitchen", "writings", "I", false)
  | _ => ("WokenByKettle$Kitchen", "shapes", "I", false)
def kYK : Nat → FieldType := fun k => match k with
  | 0 => .array (.array .int)
  | 1 => .array .int
  | 2 => .object "WokenByKettle$Law"
  | 3 => .int
  | 4 => .int
  | _ => .int
def kTL : u_T := fun k => match k with
  | 0 => ("WokenByKettle$Law", "tape", "[I", true)
  | 1 => ("WokenByKettle$Law", "stack", "[I", true)
  | 2 => ("WokenByKettle$Law", "code", "[I", false)
  | 3 => ("WokenByKettle$Law", "draft", "[I", false)
  | 4 => ("WokenByKettle$Law", "fed", "I", false)
  | 5 => ("WokenByKettle$Law", "codeLength", "I", false)
  | 6 => ("WokenByKettle$Law", "draftLength", "I", false)
  | 7 => ("WokenByKettle$Law", "at", "I", false)
  | _ => ("WokenByKettle$Law", "faulty", "Z", false)
def kYL : Nat → FieldType := fun k => match k with
  | 0 => .array .int
  | 1 => .array .int
  | 2 => .array .int
  | 3 => .array .int
  | 4 => .int
  | 5 => .int
  | 6 => .int
  | 7 => .int
  | _ => .boolean
def kTP : u_T := fun k => match k with
  | 0 => ("WokenByKettle$Paths", "kitchen", "LWokenByKettle$Kitchen;", true)
  | 1 => ("WokenByKettle$Paths", "minutes", "[[I", true)
  | 2 => ("WokenByKettle$Paths", "goers", "[I", true)
  | 3 => ("WokenByKettle$Paths", "stuckOnes", "[I", true)
  | 4 => ("WokenByKettle$Paths", "ends", "[I", true)
  | 5 => ("WokenByKettle$Paths", "sets", "I", false)
  | _ => ("WokenByKettle$Paths", "shapesSeen", "I", false)
def kYP : Nat → FieldType := fun k => match k with
  | 0 => .object "WokenByKettle$Kitchen"
  | 1 => .array (.array .int)
  | 2 => .array .int
  | 3 => .array .int
  | 4 => .array .int
  | 5 => .int
  | _ => .int
def kTT : u_T := fun k => match k with
  | 0 => ("WokenByKettle$Thought", "kitchen", "LWokenByKettle$Kitchen;", true)
  | 1 => ("WokenByKettle$Thought", "paths", "LWokenByKettle$Paths;", true)
  | 2 => ("WokenByKettle$Thought", "twelfths", "[I", true)
  | 3 => ("WokenByKettle$Thought", "odds", "[J", true)
  | 4 => ("WokenByKettle$Thought", "oddsOfMinute", "[J", true)
  | 5 => ("WokenByKettle$Thought", "endings", "[I", true)
  | 6 => ("WokenByKettle$Thought", "endingCount", "I", false)
  | 7 => ("WokenByKettle$Thought", "whole", "J", false)
  | _ => ("WokenByKettle$Thought", "writingsSeen", "I", false)
def kYT : Nat → FieldType := fun k => match k with
  | 0 => .object "WokenByKettle$Kitchen"
  | 1 => .object "WokenByKettle$Paths"
  | 2 => .array .int
  | 3 => .array .long
  | 4 => .array .long
  | 5 => .array .int
  | 6 => .int
  | 7 => .long
  | _ => .int
def kTC : u_T := fun k => match k with
  | 0 => ("WokenByKettle$Chances", "kitchen", "LWokenByKettle$Kitchen;", true)
  | 1 => ("WokenByKettle$Chances", "paths", "LWokenByKettle$Paths;", true)
  | 2 => ("WokenByKettle$Chances", "thought", "LWokenByKettle$Thought;", true)
  | _ => ("WokenByKettle$Chances", "others", "[J", true)
def kYC : Nat → FieldType := fun k => match k with
  | 0 => .object "WokenByKettle$Kitchen"
  | 1 => .object "WokenByKettle$Paths"
  | 2 => .object "WokenByKettle$Thought"
  | _ => .array .long
def kTI : u_T := fun k => match k with
  | 0 => ("WokenByKettle$Inquest", "kitchen", "LWokenByKettle$Kitchen;", true)
  | 1 => ("WokenByKettle$Inquest", "paths", "LWokenByKettle$Paths;", true)
  | 2 => ("WokenByKettle$Inquest", "thought", "LWokenByKettle$Thought;", true)
  | 3 => ("WokenByKettle$Inquest", "others", "[J", true)
  | 4 => ("WokenByKettle$Inquest", "products", "[J", true)
  | 5 => ("WokenByKettle$Inquest", "seen", "I", false)
  | 6 => ("WokenByKettle$Inquest", "told", "I", false)
  | _ => ("WokenByKettle$Inquest", "suspect", "I", false)
def kYI : Nat → FieldType := fun k => match k with
  | 0 => .object "WokenByKettle$Kitchen"
  | 1 => .object "WokenByKettle$Paths"
  | 2 => .object "WokenByKettle$Thought"
  | 3 => .array .long
  | 4 => .array .long
  | 5 => .int
  | 6 => .int
  | _ => .int
def kTN : u_T := fun k => match k with
  | 0 => ("WokenByKettle$Plan", "kitchen", "LWokenByKettle$Kitchen;", true)
  | 1 => ("WokenByKettle$Plan", "paths", "LWokenByKettle$Paths;", true)
  | 2 => ("WokenByKettle$Plan", "thought", "LWokenByKettle$Thought;", true)
  | 3 => ("WokenByKettle$Plan", "together", "[[I", true)
  | 4 => ("WokenByKettle$Plan", "twelfthsBy", "[[I", true)
  | 5 => ("WokenByKettle$Plan", "twelfths", "[I", true)
  | 6 => ("WokenByKettle$Plan", "odds", "[J", true)
  | _ => ("WokenByKettle$Plan", "base", "I", false)
def kYN : Nat → FieldType := fun k => match k with
  | 0 => .object "WokenByKettle$Kitchen"
  | 1 => .object "WokenByKettle$Paths"
  | 2 => .object "WokenByKettle$Thought"
  | 3 => .array (.array .int)
  | 4 => .array (.array .int)
  | 5 => .array .int
  | 6 => .array .long
  | _ => .int
def kTD : u_T := fun k => match k with
  | 0 => ("WokenByKettle$Deeds", "kitchen", "LWokenByKettle$Kitchen;", true)
  | 1 => ("WokenByKettle$Deeds", "paths", "LWokenByKettle$Paths;", true)
  | 2 => ("WokenByKettle$Deeds", "ledger", "[I", true)
  | 3 => ("WokenByKettle$Deeds", "ledgerKept", "[I", true)
  | 4 => ("WokenByKettle$Deeds", "agesKept", "[I", true)
  | 5 => ("WokenByKettle$Deeds", "partsKept", "I", false)
  | _ => ("WokenByKettle$Deeds", "kept", "Z", false)
def kYD : Nat → FieldType := fun k => match k with
  | 0 => .object "WokenByKettle$Kitchen"
  | 1 => .object "WokenByKettle$Paths"
  | 2 => .array .int
  | 3 => .array .int
  | 4 => .array .int
  | 5 => .int
  | _ => .boolean
def kTG : u_T := fun k => match k with
  | 0 => ("WokenByKettle$Changes", "kitchen", "LWokenByKettle$Kitchen;", true)
  | 1 => ("WokenByKettle$Changes", "numbers", "[I", true)
  | 2 => ("WokenByKettle$Changes", "whats", "[I", true)
  | 3 => ("WokenByKettle$Changes", "olds", "[I", true)
  | 4 => ("WokenByKettle$Changes", "news", "[I", true)
  | 5 => ("WokenByKettle$Changes", "done", "I", false)
  | _ => ("WokenByKettle$Changes", "all", "I", false)
def kYG : Nat → FieldType := fun k => match k with
  | 0 => .object "WokenByKettle$Kitchen"
  | 1 => .array .int
  | 2 => .array .int
  | 3 => .array .int
  | 4 => .array .int
  | 5 => .int
  | _ => .int
def kTA : u_T := fun k => match k with
  | 0 => ("WokenByKettle$Acts", "kinds", "[I", true)
  | 1 => ("WokenByKettle$Acts", "trace", "[I", true)
  | 2 => ("WokenByKettle$Acts", "bodies", "I", false)
  | 3 => ("WokenByKettle$Acts", "ran", "I", false)
  | 4 => ("WokenByKettle$Acts", "number", "I", false)
  | _ => ("WokenByKettle$Acts", "kind", "I", false)
def kYA : Nat → FieldType := fun k => match k with
  | 0 => .array .int
  | 1 => .array .int
  | 2 => .int
  | 3 => .int
  | 4 => .int
  | _ => .int
def kTS : u_T := fun k => match k with
  | 0 => ("WokenByKettle$Shelves", "holds", "[I", true)
  | 1 => ("WokenByKettle$Shelves", "bodies", "[I", true)
  | 2 => ("WokenByKettle$Shelves", "sorts", "[I", true)
  | 3 => ("WokenByKettle$Shelves", "sizes", "[I", true)
  | _ => ("WokenByKettle$Shelves", "cells", "[[J", true)
def kYS : Nat → FieldType := fun k => match k with
  | 0 => .array .int
  | 1 => .array .int
  | 2 => .array .int
  | 3 => .array .int
  | _ => .array (.array .long)
def kTY : u_T := fun k => match k with
  | 0 => ("WokenByKettleModel", "code", "I", false)
  | 1 => ("WokenByKettleModel", "parts1", "I", false)
  | 2 => ("WokenByKettleModel", "ahead", "[I", true)
  | 3 => ("WokenByKettleModel", "any", "[I", true)
  | 4 => ("WokenByKettleModel", "worksOf", "[I", true)
  | 5 => ("WokenByKettleModel", "takes", "[I", true)
  | 6 => ("WokenByKettleModel", "wear", "[I", true)
  | 7 => ("WokenByKettleModel", "age", "[I", true)
  | 8 => ("WokenByKettleModel", "told", "[I", true)
  | 9 => ("WokenByKettleModel", "doneMany", "I", false)
  | 10 => ("WokenByKettleModel", "undoneMany", "I", false)
  | 11 => ("WokenByKettleModel", "changeOf", "[I", true)
  | 12 => ("WokenByKettleModel", "changeAt", "[I", true)
  | 13 => ("WokenByKettleModel", "before", "[I", true)
  | 14 => ("WokenByKettleModel", "behind", "[I", true)
  | 15 => ("WokenByKettleModel", "tape", "[B", true)
  | 16 => ("WokenByKettleModel", "taped", "I", false)
  | 17 => ("WokenByKettleModel", "here", "I", false)
  | 18 => ("WokenByKettleModel", "fault", "I", false)
  | 19 => ("WokenByKettleModel", "open", "I", false)
  | 20 => ("WokenByKettleModel", "laid", "I", false)
  | 21 => ("WokenByKettleModel", "act", "[B", true)
  | 22 => ("WokenByKettleModel", "with", "[I", true)
  | 23 => ("WokenByKettleModel", "lineMany", "[I", true)
  | 24 => ("WokenByKettleModel", "testEnd", "[S", true)
  | 25 => ("WokenByKettleModel", "lineEnd", "[S", true)
  | 26 => ("WokenByKettleModel", "facts", "[I", true)
  | 27 => ("WokenByKettleModel", "pile", "[I", true)
  | 28 => ("WokenByKettleModel", "hasLaw", "Z", false)
  | 29 => ("WokenByKettleModel", "goneAt", "[I", true)
  | 30 => ("WokenByKettleModel", "stuck1", "I", false)
  | 31 => ("WokenByKettleModel", "went", "I", false)
  | 32 => ("WokenByKettleModel", "twelfths", "[I", true)
  | 33 => ("WokenByKettleModel", "doubled", "I", false)
  | 34 => ("WokenByKettleModel", "byMinute", "[J", true)
  | 35 => ("WokenByKettleModel", "allSo", "J", false)
  | 36 => ("WokenByKettleModel", "stuckSo", "[J", true)
  | 37 => ("WokenByKettleModel", "goneSo", "[J", true)
  | 38 => ("WokenByKettleModel", "whomOf", "[I", true)
  | 39 => ("WokenByKettleModel", "bestWhom", "[I", true)
  | 40 => ("WokenByKettleModel", "mostSum", "I", false)
  | 41 => ("WokenByKettleModel", "ages1", "[I", true)
  | 42 => ("WokenByKettleModel", "ledOf", "[I", true)
  | 43 => ("WokenByKettleModel", "hasImage", "Z", false)
  | 44 => ("WokenByKettleModel", "keptMany", "I", false)
  | 45 => ("WokenByKettleModel", "keptAge", "[I", true)
  | 46 => ("WokenByKettleModel", "keptLed", "[I", true)
  | 47 => ("WokenByKettleModel", "bodies", "I", false)
  | 48 => ("WokenByKettleModel", "kind", "[I", true)
  | 49 => ("WokenByKettleModel", "traces", "I", false)
  | 50 => ("WokenByKettleModel", "traced", "[I", true)
  | 51 => ("WokenByKettleModel", "holds", "[I", true)
  | 52 => ("WokenByKettleModel", "size", "[I", true)
  | 53 => ("WokenByKettleModel", "elements", "[J", true)
  | _ => ("WokenByKettleModel", "shifted", "[J", true)
def kYY : Nat → FieldType := fun k => match k with
  | 0 => .int
  | 1 => .int
  | 2 => .array .int
  | 3 => .array .int
  | 4 => .array .int
  | 5 => .array .int
  | 6 => .array .int
  | 7 => .array .int
  | 8 => .array .int
  | 9 => .int
  | 10 => .int
  | 11 => .array .int
  | 12 => .array .int
  | 13 => .array .int
  | 14 => .array .int
  | 15 => .array .byte
  | 16 => .int
  | 17 => .int
  | 18 => .int
  | 19 => .int
  | 20 => .int
  | 21 => .array .byte
  | 22 => .array .int
  | 23 => .array .int
  | 24 => .array .short
  | 25 => .array .short
  | 26 => .array .int
  | 27 => .array .int
  | 28 => .boolean
  | 29 => .array .int
  | 30 => .int
  | 31 => .int
  | 32 => .array .int
  | 33 => .int
  | 34 => .array .long
  | 35 => .long
  | 36 => .array .long
  | 37 => .array .long
  | 38 => .array .int
  | 39 => .array .int
  | 40 => .int
  | 41 => .array .int
  | 42 => .array .int
  | 43 => .boolean
  | 44 => .int
  | 45 => .array .int
  | 46 => .array .int
  | 47 => .int
  | 48 => .array .int
  | 49 => .int
  | 50 => .array .int
  | 51 => .array .int
  | 52 => .array .int
  | 53 => .array .long
  | _ => .array .long
def clsT : List vw_C := [("WokenByKettle", kTZ, 10), ("WokenByKettle$Kitchen", kTK, 6), ("WokenByKettle$Law", kTL, 9), ("WokenByKettle$Paths", kTP, 7), ("WokenByKettle$Thought", kTT, 9), ("WokenByKettle$Chances", kTC, 4), ("WokenByKettle$Inquest", kTI, 8), ("WokenByKettle$Plan", kTN, 8), ("WokenByKettle$Deeds", kTD, 7), ("WokenByKettle$Changes", kTG, 7), ("WokenByKettle$Acts", kTA, 6), ("WokenByKettle$Shelves", kTS, 5), ("WokenByKettleModel", kTY, 55)]
def tyC : Nat → Nat → FieldType := fun c => match c with
  | 0 => kYZ
  | 1 => kYK
  | 2 => kYL
  | 3 => kYP
  | 4 => kYT
  | 5 => kYC
  | 6 => kYI
  | 7 => kYN
  | 8 => kYD
  | 9 => kYG
  | 10 => kYA
  | 11 => kYS
  | _ => kYY
abbrev Kd : Type := (FieldType × Nat) ⊕ Nat
/-- what each cell is, by its number (0: none) -/
def tbl : List Kd := [.inl (.int, 0), .inr 0, .inr 1, .inl (.array .int, 13), .inl (.int, 9), .inl (.int, 9), .inl (.int, 9), .inl (.int, 9), .inl (.int, 9), .inl (.int, 9), .inl (.int, 9), .inl (.int, 9), .inl (.int, 9), .inl (.int, 9), .inl (.int, 9), .inl (.int, 9), .inl (.int, 9), .inl (.int, 6), .inr 2, .inl (.int, 120), .inl (.int, 128), .inl (.int, 128), .inl (.int, 128), .inr 3, .inl (.array .int, 9), .inl (.int, 512), .inl (.int, 512), .inl (.int, 512), .inl (.int, 512), .inl (.int, 512), .inl (.int, 512), .inl (.int, 512), .inl (.int, 512), .inl (.int, 512), .inl (.int, 512), .inl (.int, 512), .inl (.int, 512), .inr 4, .inl (.int, 9), .inl (.long, 512), .inl (.long, 541), .inl (.int, 512), .inr 5, .inl (.long, 512), .inr 6, .inl (.long, 512), .inl (.long, 13), .inr 7, .inl (.array .int, 3), .inl (.int, 216), .inl (.int, 216), .inl (.int, 216), .inl (.array .int, 5), .inl (.int, 6), .inl (.int, 6), .inl (.int, 6), .inl (.int, 6), .inl (.int, 6), .inl (.int, 5), .inl (.long, 32), .inr 8, .inl (.int, 6), .inl (.int, 6), .inl (.int, 9), .inr 9, .inl (.int, 40), .inl (.int, 40), .inl (.int, 40), .inl (.int, 40), .inr 10, .inl (.int, 50), .inl (.int, 24), .inr 11, .inl (.int, 6), .inl (.int, 6), .inl (.int, 6), .inl (.int, 6), .inl (.array .long, 6), .inl (.long, 60), .inl (.long, 60), .inl (.long, 60), .inl (.long, 60), .inl (.long, 60), .inl (.long, 60), .inr 12, .inl (.int, 9), .inl (.int, 9), .inl (.int, 9), .inl (.int, 9), .inl (.int, 9), .inl (.int, 9), .inl (.int, 7), .inl (.int, 40), .inl (.int, 40), .inl (.int, 40), .inl (.int, 40), .inl (.byte, 120), .inl (.byte, 260), .inl (.int, 260), .inl (.int, 2), .inl (.short, 122), .inl (.short, 122), .inl (.int, 6), .inl (.int, 130), .inl (.int, 9), .inl (.int, 9), .inl (.long, 541), .inl (.long, 9), .inl (.long, 9), .inl (.int, 3), .inl (.int, 3), .inl (.int, 15), .inl (.int, 6), .inl (.int, 9), .inl (.int, 6), .inl (.int, 50), .inl (.int, 24), .inl (.int, 6), .inl (.int, 6), .inl (.long, 360), .inl (.long, 60)]
abbrev NT : Nat := 120
def kz_sz (q : Kd) : Nat := match q with
  | .inl (_, n) => n
  | .inr ci => match clsT[ci]? with
    | some c => c.2.2
    | none => 0
def zs (n : Nat) : Nat := ((tbl.take (n + 1)).map kz_sz).sum
abbrev kz_E : Type := String × String × String × FieldType × Nat × List Int
def exts : List kz_E := [("WokenByKettle$Kitchen", "LEAST", "[I", .int, 13, [0, 0, 0, 1, 0, 0, 0, 0, 0, 0, 0, 0, 0]), ("WokenByKettle$Kitchen", "GREATEST", "[I", .int, 13, [511, 1, 12, 60, 9, 99, 9, 1, 300, 20, 20, 8, 8]), ("WokenByKettle$Law", "SIGNS", "[C", .char, 10, [124, 38, 60, 61, 62, 43, 45, 42, 47, 37]), ("WokenByKettle$Law", "LEVEL_OF_SIGN", "[I", .int, 10, [0, 1, 2, 2, 2, 3, 3, 4, 4, 4]), ("WokenByKettle$Law", "NAMES", "[C", .char, 6, [119, 100, 97, 101, 103, 112]), ("WokenByKettle$Acts", "ABOVE", "[I", .int, 8, [-1, 0, 0, 2, 1, 3, 0, 6]), ("WokenByKettle$Acts", "OWN_BODY", "[I", .int, 32, [1, 20, 0, 0, 0, 0, 70, 81, 10, 0, 30, 41, 0, 0, 0, 80, 11, 0, 0, 40, 0, 60, 0, 0, 2, 0, 0, 0, 50, 61, 0, 0])]
def kz_nest : Cond → Bool
  | .fieldLinkNest .. => true
  | .methodLinkNest .. => true
  | _ => false
def nst : List Cond := tables_1.filter kz_nest
def Tg : List Cond := lw_tbl.filter goodWord
theorem mT {w : Cond} (i : Nat) (h : lw_tbl[i]? = some w) (hg : goodWord w = true) : w ∈ Tg := List.mem_filter.mpr ⟨List.mem_of_getElem? h, hg⟩
theorem mN {w : Cond} (i : Nat) (h : tables_1[i]? = some w) (hg : kz_nest w = true) : w ∈ nst := List.mem_filter.mpr ⟨List.mem_of_getElem? h, hg⟩
theorem Tg_good {w : Cond} (h : w ∈ Tg) : goodWord w = true := (List.mem_filter.mp h).2
theorem kNZ : ∀ a, a < 10 → ∀ b, b < 10 → a ≠ b → (kTZ a).2.1 ≠ (kTZ b).2.1 := by decide +kernel
theorem kOZ : ∀ k, k < 10 → parseFieldDescriptor (kTZ k).2.2.1 = some (kYZ k) := by decide +kernel
theorem kWZ : ∀ w ∈ u_ws "WokenByKettle" kTZ 10, w ∈ Tg := by
  intro w hw
  obtain ⟨k, hk, rfl⟩ := List.mem_map.mp hw
  have hk := List.mem_range.mp hk
  match k, hk with
  | 0, _ => exact mT 531 (by decide +kernel) rfl
  | 1, _ => exact mT 533 (by decide +kernel) rfl
  | 2, _ => exact mT 535 (by decide +kernel) rfl
  | 3, _ => exact mT 537 (by decide +kernel) rfl
  | 4, _ => exact mT 539 (by decide +kernel) rfl
  | 5, _ => exact mT 541 (by decide +kernel) rfl
  | 6, _ => exact mT 543 (by decide +kernel) rfl
  | 7, _ => exact mT 545 (by decide +kernel) rfl
  | 8, _ => exact mT 547 (by decide +kernel) rfl
  | 9, _ => exact mT 549 (by decide +kernel) rfl
  | k + 10, h => exact absurd h (by omega)
theorem kNK : ∀ a, a < 6 → ∀ b, b < 6 → a ≠ b → (kTK a).2.1 ≠ (kTK b).2.1 := by decide +kernel
theorem kOK : ∀ k, k < 6 → parseFieldDescriptor (kTK k).2.2.1 = some (kYK k) := by decide +kernel
theorem kWK : ∀ w ∈ u_ws "WokenByKettle$Kitchen" kTK 6, w ∈ Tg := by
  intro w hw
  obtain ⟨k, hk, rfl⟩ := List.mem_map.mp hw
  have hk := List.mem_range.mp hk
  match k, hk with
  | 0, _ => exact mT 231 (by decide +kernel) rfl
  | 1, _ => exact mT 233 (by decide +kernel) rfl
  | 2, _ => exact mT 235 (by decide +kernel) rfl
  | 3, _ => exact mT 237 (by decide +kernel) rfl
  | 4, _ => exact mT 239 (by decide +kernel) rfl
  | 5, _ => exact mT 241 (by decide +kernel) rfl
  | k + 6, h => exact absurd h (by omega)
theorem kNL : ∀ a, a < 9 → ∀ b, b < 9 → a ≠ b → (kTL a).2.1 ≠ (kTL b).2.1 := by decide +kernel
theorem kOL : ∀ k, k < 9 → parseFieldDescriptor (kTL k).2.2.1 = some (kYL k) := by decide +kernel
theorem kWL : ∀ w ∈ u_ws "WokenByKettle$Law" kTL 9, w ∈ Tg := by
  intro w hw
  obtain ⟨k, hk, rfl⟩ := List.mem_map.mp hw
  have hk := List.mem_range.mp hk
  match k, hk with
  | 0, _ => exact mT 194 (by decide +kernel) rfl
  | 1, _ => exact mT 196 (by decide +kernel) rfl
  | 2, _ => exact mT 198 (by decide +kernel) rfl
  | 3, _ => exact mT 200 (by decide +kernel) rfl
  | 4, _ => exact mT 202 (by decide +kernel) rfl
  | 5, _ => exact mT 204 (by decide +kernel) rfl
  | 6, _ => exact mT 206 (by decide +kernel) rfl
  | 7, _ => exact mT 208 (by decide +kernel) rfl
  | 8, _ => exact mT 210 (by decide +kernel) rfl
  | k + 9, h => exact absurd h (by omega)
theorem kNP : ∀ a, a < 7 → ∀ b, b < 7 → a ≠ b → (kTP a).2.1 ≠ (kTP b).2.1 := by decide +kernel
theorem kOP : ∀ k, k < 7 → parseFieldDescriptor (kTP k).2.2.1 = some (kYP k) := by decide +kernel
theorem kWP : ∀ w ∈ u_ws "WokenByKettle$Paths" kTP 7, w ∈ Tg := by
  intro w hw
  obtain ⟨k, hk, rfl⟩ := List.mem_map.mp hw
  have hk := List.mem_range.mp hk
  match k, hk with
  | 0, _ => exact mT 270 (by decide +kernel) rfl
  | 1, _ => exact mT 272 (by decide +kernel) rfl
  | 2, _ => exact mT 274 (by decide +kernel) rfl
  | 3, _ => exact mT 276 (by decide +kernel) rfl
  | 4, _ => exact mT 278 (by decide +kernel) rfl
  | 5, _ => exact mT 280 (by decide +kernel) rfl
  | 6, _ => exact mT 282 (by decide +kernel) rfl
  | k + 7, h => exact absurd h (by omega)
theorem kNT : ∀ a, a < 9 → ∀ b, b < 9 → a ≠ b → (kTT a).2.1 ≠ (kTT b).2.1 := by decide +kernel
theorem kOT : ∀ k, k < 9 → parseFieldDescriptor (kTT k).2.2.1 = some (kYT k) := by decide +kernel
theorem kWT : ∀ w ∈ u_ws "WokenByKettle$Thought" kTT 9, w ∈ Tg := by
  intro w hw
  obtain ⟨k, hk, rfl⟩ := List.mem_map.mp hw
  have hk := List.mem_range.mp hk
  match k, hk with
  | 0, _ => exact mT 311 (by decide +kernel) rfl
  | 1, _ => exact mT 313 (by decide +kernel) rfl
  | 2, _ => exact mT 315 (by decide +kernel) rfl
  | 3, _ => exact mT 317 (by decide +kernel) rfl
  | 4, _ => exact mT 319 (by decide +kernel) rfl
  | 5, _ => exact mT 321 (by decide +kernel) rfl
  | 6, _ => exact mT 323 (by decide +kernel) rfl
  | 7, _ => exact mT 325 (by decide +kernel) rfl
  | 8, _ => exact mT 327 (by decide +kernel) rfl
  | k + 9, h => exact absurd h (by omega)
theorem kNC : ∀ a, a < 4 → ∀ b, b < 4 → a ≠ b → (kTC a).2.1 ≠ (kTC b).2.1 := by decide +kernel
theorem kOC : ∀ k, k < 4 → parseFieldDescriptor (kTC k).2.2.1 = some (kYC k) := by decide +kernel
theorem kWC : ∀ w ∈ u_ws "WokenByKettle$Chances" kTC 4, w ∈ Tg := by
  intro w hw
  obtain ⟨k, hk, rfl⟩ := List.mem_map.mp hw
  have hk := List.mem_range.mp hk
  match k, hk with
  | 0, _ => exact mT 341 (by decide +kernel) rfl
  | 1, _ => exact mT 343 (by decide +kernel) rfl
  | 2, _ => exact mT 345 (by decide +kernel) rfl
  | 3, _ => exact mT 347 (by decide +kernel) rfl
  | k + 4, h => exact absurd h (by omega)
theorem kNI : ∀ a, a < 8 → ∀ b, b < 8 → a ≠ b → (kTI a).2.1 ≠ (kTI b).2.1 := by decide +kernel
theorem kOI : ∀ k, k < 8 → parseFieldDescriptor (kTI k).2.2.1 = some (kYI k) := by decide +kernel
theorem kWI : ∀ w ∈ u_ws "WokenByKettle$Inquest" kTI 8, w ∈ Tg := by
  intro w hw
  obtain ⟨k, hk, rfl⟩ := List.mem_map.mp hw
  have hk := List.mem_range.mp hk
  match k, hk with
  | 0, _ => exact mT 364 (by decide +kernel) rfl
  | 1, _ => exact mT 366 (by decide +kernel) rfl
  | 2, _ => exact mT 368 (by decide +kernel) rfl
  | 3, _ => exact mT 370 (by decide +kernel) rfl
  | 4, _ => exact mT 372 (by decide +kernel) rfl
  | 5, _ => exact mT 374 (by decide +kernel) rfl
  | 6, _ => exact mT 376 (by decide +kernel) rfl
  | 7, _ => exact mT 378 (by decide +kernel) rfl
  | k + 8, h => exact absurd h (by omega)
theorem kNN : ∀ a, a < 8 → ∀ b, b < 8 → a ≠ b → (kTN a).2.1 ≠ (kTN b).2.1 := by decide +kernel
theorem kON : ∀ k, k < 8 → parseFieldDescriptor (kTN k).2.2.1 = some (kYN k) := by decide +kernel
theorem kWN : ∀ w ∈ u_ws "WokenByKettle$Plan" kTN 8, w ∈ Tg := by
  intro w hw
  obtain ⟨k, hk, rfl⟩ := List.mem_map.mp hw
  have hk := List.mem_range.mp hk
  match k, hk with
  | 0, _ => exact mT 396 (by decide +kernel) rfl
  | 1, _ => exact mT 398 (by decide +kernel) rfl
  | 2, _ => exact mT 400 (by decide +kernel) rfl
  | 3, _ => exact mT 402 (by decide +kernel) rfl
  | 4, _ => exact mT 404 (by decide +kernel) rfl
  | 5, _ => exact mT 406 (by decide +kernel) rfl
  | 6, _ => exact mT 408 (by decide +kernel) rfl
  | 7, _ => exact mT 410 (by decide +kernel) rfl
  | k + 8, h => exact absurd h (by omega)
theorem kND : ∀ a, a < 7 → ∀ b, b < 7 → a ≠ b → (kTD a).2.1 ≠ (kTD b).2.1 := by decide +kernel
theorem kOD : ∀ k, k < 7 → parseFieldDescriptor (kTD k).2.2.1 = some (kYD k) := by decide +kernel
theorem kWD : ∀ w ∈ u_ws "WokenByKettle$Deeds" kTD 7, w ∈ Tg := by
  intro w hw
  obtain ⟨k, hk, rfl⟩ := List.mem_map.mp hw
  have hk := List.mem_range.mp hk
  match k, hk with
  | 0, _ => exact mT 426 (by decide +kernel) rfl
  | 1, _ => exact mT 428 (by decide +kernel) rfl
  | 2, _ => exact mT 430 (by decide +kernel) rfl
  | 3, _ => exact mT 432 (by decide +kernel) rfl
  | 4, _ => exact mT 434 (by decide +kernel) rfl
  | 5, _ => exact mT 436 (by decide +kernel) rfl
  | 6, _ => exact mT 438 (by decide +kernel) rfl
  | k + 7, h => exact absurd h (by omega)
theorem kNG : ∀ a, a < 7 → ∀ b, b < 7 → a ≠ b → (kTG a).2.1 ≠ (kTG b).2.1 := by decide +kernel
theorem kOG : ∀ k, k < 7 → parseFieldDescriptor (kTG k).2.2.1 = some (kYG k) := by decide +kernel
theorem kWG : ∀ w ∈ u_ws "WokenByKettle$Changes" kTG 7, w ∈ Tg := by
  intro w hw
  obtain ⟨k, hk, rfl⟩ := List.mem_map.mp hw
  have hk := List.mem_range.mp hk
  match k, hk with
  | 0, _ => exact mT 455 (by decide +kernel) rfl
  | 1, _ => exact mT 457 (by decide +kernel) rfl
  | 2, _ => exact mT 459 (by decide +kernel) rfl
  | 3, _ => exact mT 461 (by decide +kernel) rfl
  | 4, _ => exact mT 463 (by decide +kernel) rfl
  | 5, _ => exact mT 465 (by decide +kernel) rfl
  | 6, _ => exact mT 467 (by decide +kernel) rfl
  | k + 7, h => exact absurd h (by omega)
theorem kNA : ∀ a, a < 6 → ∀ b, b < 6 → a ≠ b → (kTA a).2.1 ≠ (kTA b).2.1 := by decide +kernel
theorem kOA : ∀ k, k < 6 → parseFieldDescriptor (kTA k).2.2.1 = some (kYA k) := by decide +kernel
theorem kWA : ∀ w ∈ u_ws "WokenByKettle$Acts" kTA 6, w ∈ Tg := by
  intro w hw
  obtain ⟨k, hk, rfl⟩ := List.mem_map.mp hw
  have hk := List.mem_range.mp hk
  match k, hk with
  | 0, _ => exact mT 484 (by decide +kernel) rfl
  | 1, _ => exact mT 486 (by decide +kernel) rfl
  | 2, _ => exact mT 488 (by decide +kernel) rfl
  | 3, _ => exact mT 490 (by decide +kernel) rfl
  | 4, _ => exact mT 492 (by decide +kernel) rfl
  | 5, _ => exact mT 494 (by decide +kernel) rfl
  | k + 6, h => exact absurd h (by omega)
theorem kNS : ∀ a, a < 5 → ∀ b, b < 5 → a ≠ b → (kTS a).2.1 ≠ (kTS b).2.1 := by decide +kernel
theorem kOS : ∀ k, k < 5 → parseFieldDescriptor (kTS k).2.2.1 = some (kYS k) := by decide +kernel
theorem kWS : ∀ w ∈ u_ws "WokenByKettle$Shelves" kTS 5, w ∈ Tg := by
  intro w hw
  obtain ⟨k, hk, rfl⟩ := List.mem_map.mp hw
  have hk := List.mem_range.mp hk
  match k, hk with
  | 0, _ => exact mT 510 (by decide +kernel) rfl
  | 1, _ => exact mT 512 (by decide +kernel) rfl
  | 2, _ => exact mT 514 (by decide +kernel) rfl
  | 3, _ => exact mT 516 (by decide +kernel) rfl
  | 4, _ => exact mT 518 (by decide +kernel) rfl
  | k + 5, h => exact absurd h (by omega)
theorem kNY : ∀ a, a < 55 → ∀ b, b < 55 → a ≠ b → (kTY a).2.1 ≠ (kTY b).2.1 := by decide +kernel
theorem kOY : ∀ k, k < 55 → parseFieldDescriptor (kTY k).2.2.1 = some (kYY k) := by decide +kernel
theorem kWY : ∀ w ∈ u_ws "WokenByKettleModel" kTY 55, w ∈ Tg := by
  intro w hw
  obtain ⟨k, hk, rfl⟩ := List.mem_map.mp hw
  have hk := List.mem_range.mp hk
  match k, hk with
  | 0, _ => exact mT 1271 (by decide +kernel) rfl
  | 1, _ => exact mT 1273 (by decide +kernel) rfl
  | 2, _ => exact mT 1275 (by decide +kernel) rfl
  | 3, _ => exact mT 1277 (by decide +kernel) rfl
  | 4, _ => exact mT 1279 (by decide +kernel) rfl
  | 5, _ => exact mT 1281 (by decide +kernel) rfl
  | 6, _ => exact mT 1283 (by decide +kernel) rfl
  | 7, _ => exact mT 1285 (by decide +kernel) rfl
  | 8, _ => exact mT 1287 (by decide +kernel) rfl
  | 9, _ => exact mT 1289 (by decide +kernel) rfl
  | 10, _ => exact mT 1291 (by decide +kernel) rfl
  | 11, _ => exact mT 1293 (by decide +kernel) rfl
  | 12, _ => exact mT 1295 (by decide +kernel) rfl
  | 13, _ => exact mT 1297 (by decide +kernel) rfl
  | 14, _ => exact mT 1299 (by decide +kernel) rfl
  | 15, _ => exact mT 1301 (by decide +kernel) rfl
  | 16, _ => exact mT 1303 (by decide +kernel) rfl
  | 17, _ => exact mT 1305 (by decide +kernel) rfl
  | 18, _ => exact mT 1307 (by decide +kernel) rfl
  | 19, _ => exact mT 1309 (by decide +kernel) rfl
  | 20, _ => exact mT 1311 (by decide +kernel) rfl
  | 21, _ => exact mT 1313 (by decide +kernel) rfl
  | 22, _ => exact mT 1315 (by decide +kernel) rfl
  | 23, _ => exact mT 1317 (by decide +kernel) rfl
  | 24, _ => exact mT 1319 (by decide +kernel) rfl
  | 25, _ => exact mT 1321 (by decide +kernel) rfl
  | 26, _ => exact mT 1323 (by decide +kernel) rfl
  | 27, _ => exact mT 1325 (by decide +kernel) rfl
  | 28, _ => exact mT 1327 (by decide +kernel) rfl
  | 29, _ => exact mT 1329 (by decide +kernel) rfl
  | 30, _ => exact mT 1331 (by decide +kernel) rfl
  | 31, _ => exact mT 1333 (by decide +kernel) rfl
  | 32, _ => exact mT 1335 (by decide +kernel) rfl
  | 33, _ => exact mT 1337 (by decide +kernel) rfl
  | 34, _ => exact mT 1339 (by decide +kernel) rfl
  | 35, _ => exact mT 1341 (by decide +kernel) rfl
  | 36, _ => exact mT 1343 (by decide +kernel) rfl
  | 37, _ => exact mT 1345 (by decide +kernel) rfl
  | 38, _ => exact mT 1347 (by decide +kernel) rfl
  | 39, _ => exact mT 1349 (by decide +kernel) rfl
  | 40, _ => exact mT 1351 (by decide +kernel) rfl
  | 41, _ => exact mT 1353 (by decide +kernel) rfl
  | 42, _ => exact mT 1355 (by decide +kernel) rfl
  | 43, _ => exact mT 1357 (by decide +kernel) rfl
  | 44, _ => exact mT 1359 (by decide +kernel) rfl
  | 45, _ => exact mT 1361 (by decide +kernel) rfl
  | 46, _ => exact mT 1363 (by decide +kernel) rfl
  | 47, _ => exact mT 1365 (by decide +kernel) rfl
  | 48, _ => exact mT 1367 (by decide +kernel) rfl
  | 49, _ => exact mT 1369 (by decide +kernel) rfl
  | 50, _ => exact mT 1371 (by decide +kernel) rfl
  | 51, _ => exact mT 1373 (by decide +kernel) rfl
  | 52, _ => exact mT 1375 (by decide +kernel) rfl
  | 53, _ => exact mT 1377 (by decide +kernel) rfl
  | 54, _ => exact mT 1379 (by decide +kernel) rfl
  | k + 55, h => exact absurd h (by omega)
