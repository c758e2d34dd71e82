-- ===== PART A: goes FIRST, ahead of the names: the tables' words, and 'selects' of the private methods out of them =====
/-- a private method of a class that the tables say can be made, by its rows of tables_1 -/
def lw_okq (q : MethodName × Nat) : Prop := (q.1.cls ≠ "java/lang/invoke/MethodHandle" ∧ q.1.cls ≠ "java/lang/invoke/VarHandle") ∧ Cond.instantiable q.1.cls q.2 ∈ tables_1 ∧ Cond.privateMethod q.1 ∈ tables_1 ∧ Cond.instanceMethod q.1 ∈ tables_1
theorem lw_p0 : lw_okq (⟨"TurningVerse", "store", "(II)I"⟩, 8) := ⟨⟨by decide +kernel, by decide +kernel⟩, List.mem_of_getElem? (i := 17) (by decide +kernel), List.mem_of_getElem? (i := 272) (by decide +kernel), List.mem_of_getElem? (i := 273) (by decide +kernel)⟩
theorem lw_p1 : lw_okq (⟨"TurningVerse$Search", "note", "(II)V"⟩, 6) := ⟨⟨by decide +kernel, by decide +kernel⟩, List.mem_of_getElem? (i := 161) (by decide +kernel), List.mem_of_getElem? (i := 360) (by decide +kernel), List.mem_of_getElem? (i := 361) (by decide +kernel)⟩
theorem lw_p2 : lw_okq (⟨"TurningVerse$Search", "isFactor", "(I)Z"⟩, 6) := ⟨⟨by decide +kernel, by decide +kernel⟩, List.mem_of_getElem? (i := 161) (by decide +kernel), List.mem_of_getElem? (i := 369) (by decide +kernel), List.mem_of_getElem? (i := 370) (by decide +kernel)⟩
theorem lw_p3 : lw_okq (⟨"TurningVerse$Search", "firstFactor", "(I)I"⟩, 6) := ⟨⟨by decide +kernel, by decide +kernel⟩, List.mem_of_getElem? (i := 161) (by decide +kernel), List.mem_of_getElem? (i := 395) (by decide +kernel), List.mem_of_getElem? (i := 396) (by decide +kernel)⟩
theorem lw_p4 : lw_okq (⟨"TurningVerse$Search", "without", "(II)I"⟩, 6) := ⟨⟨by decide +kernel, by decide +kernel⟩, List.mem_of_getElem? (i := 161) (by decide +kernel), List.mem_of_getElem? (i := 399) (by decide +kernel), List.mem_of_getElem? (i := 400) (by decide +kernel)⟩
theorem lw_p5 : lw_okq (⟨"TurningVerse", "isLine", "(I)Z"⟩, 8) := ⟨⟨by decide +kernel, by decide +kernel⟩, List.mem_of_getElem? (i := 17) (by decide +kernel), List.mem_of_getElem? (i := 408) (by decide +kernel), List.mem_of_getElem? (i := 409) (by decide +kernel)⟩
theorem lw_p6 : lw_okq (⟨"TurningVerse", "isStanza", "(I)Z"⟩, 8) := ⟨⟨by decide +kernel, by decide +kernel⟩, List.mem_of_getElem? (i := 17) (by decide +kernel), List.mem_of_getElem? (i := 450) (by decide +kernel), List.mem_of_getElem? (i := 451) (by decide +kernel)⟩
theorem lw_p7 : lw_okq (⟨"TurningVerse$Fit", "compare", "(LTurningVerse$Poem;II)V"⟩, 4) := ⟨⟨by decide +kernel, by decide +kernel⟩, List.mem_of_getElem? (i := 187) (by decide +kernel), List.mem_of_getElem? (i := 482) (by decide +kernel), List.mem_of_getElem? (i := 483) (by decide +kernel)⟩
theorem lw_p8 : lw_okq (⟨"TurningVerse$Fit", "mostKept", "()I"⟩, 4) := ⟨⟨by decide +kernel, by decide +kernel⟩, List.mem_of_getElem? (i := 187) (by decide +kernel), List.mem_of_getElem? (i := 490) (by decide +kernel), List.mem_of_getElem? (i := 491) (by decide +kernel)⟩
theorem lw_p9 : lw_okq (⟨"TurningVerse$Fit", "keptWith", "(III)I"⟩, 4) := ⟨⟨by decide +kernel, by decide +kernel⟩, List.mem_of_getElem? (i := 187) (by decide +kernel), List.mem_of_getElem? (i := 495) (by decide +kernel), List.mem_of_getElem? (i := 496) (by decide +kernel)⟩
theorem lw_p10 : lw_okq (⟨"TurningVerse$Fit", "atMostKept", "()I"⟩, 4) := ⟨⟨by decide +kernel, by decide +kernel⟩, List.mem_of_getElem? (i := 187) (by decide +kernel), List.mem_of_getElem? (i := 525) (by decide +kernel), List.mem_of_getElem? (i := 526) (by decide +kernel)⟩
theorem lw_p11 : lw_okq (⟨"TurningVerse$Fit", "mostOfLine", "(I)I"⟩, 4) := ⟨⟨by decide +kernel, by decide +kernel⟩, List.mem_of_getElem? (i := 187) (by decide +kernel), List.mem_of_getElem? (i := 529) (by decide +kernel), List.mem_of_getElem? (i := 530) (by decide +kernel)⟩
theorem lw_p12 : lw_okq (⟨"TurningVerse$Fit", "mostOfWord", "(I)I"⟩, 4) := ⟨⟨by decide +kernel, by decide +kernel⟩, List.mem_of_getElem? (i := 187) (by decide +kernel), List.mem_of_getElem? (i := 533) (by decide +kernel), List.mem_of_getElem? (i := 534) (by decide +kernel)⟩
theorem lw_p13 : lw_okq (⟨"TurningVerse$Fit", "firstWord", "(II)I"⟩, 4) := ⟨⟨by decide +kernel, by decide +kernel⟩, List.mem_of_getElem? (i := 187) (by decide +kernel), List.mem_of_getElem? (i := 554) (by decide +kernel), List.mem_of_getElem? (i := 555) (by decide +kernel)⟩
def lw_privs_1 : List (MethodName × Nat) := [(⟨"TurningVerse", "store", "(II)I"⟩, 8), (⟨"TurningVerse$Search", "note", "(II)V"⟩, 6), (⟨"TurningVerse$Search", "isFactor", "(I)Z"⟩, 6), (⟨"TurningVerse$Search", "firstFactor", "(I)I"⟩, 6), (⟨"TurningVerse$Search", "without", "(II)I"⟩, 6), (⟨"TurningVerse", "isLine", "(I)Z"⟩, 8), (⟨"TurningVerse", "isStanza", "(I)Z"⟩, 8), (⟨"TurningVerse$Fit", "compare", "(LTurningVerse$Poem;II)V"⟩, 4), (⟨"TurningVerse$Fit", "mostKept", "()I"⟩, 4), (⟨"TurningVerse$Fit", "keptWith", "(III)I"⟩, 4), (⟨"TurningVerse$Fit", "atMostKept", "()I"⟩, 4), (⟨"TurningVerse$Fit", "mostOfLine", "(I)I"⟩, 4), (⟨"TurningVerse$Fit", "mostOfWord", "(I)I"⟩, 4), (⟨"TurningVerse$Fit", "firstWord", "(II)I"⟩, 4)]
theorem lw_r1 : ∀ q ∈ lw_privs_1, lw_okq q := List.forall_mem_cons.mpr ⟨lw_p0, List.forall_mem_cons.mpr ⟨lw_p1, List.forall_mem_cons.mpr ⟨lw_p2, List.forall_mem_cons.mpr ⟨lw_p3, List.forall_mem_cons.mpr ⟨lw_p4, List.forall_mem_cons.mpr ⟨lw_p5, List.forall_mem_cons.mpr ⟨lw_p6, List.forall_mem_cons.mpr ⟨lw_p7, List.forall_mem_cons.mpr ⟨lw_p8, List.forall_mem_cons.mpr ⟨lw_p9, List.forall_mem_cons.mpr ⟨lw_p10, List.forall_mem_cons.mpr ⟨lw_p11, List.forall_mem_cons.mpr ⟨lw_p12, List.forall_mem_cons.mpr ⟨lw_p13, fun _ h => absurd h List.not_mem_nil⟩⟩⟩⟩⟩⟩⟩⟩⟩⟩⟩⟩⟩⟩
def lw_privs : List (MethodName × Nat) := lw_privs_1
def lw_tbl : List Cond := k2_sels lw_privs ++ tables_1
theorem lw_privs_ok : ∀ q ∈ lw_privs, lw_okq q := lw_r1
-- ===== end of PART A =====
def lw_g : List Cond := lw_tbl.filter goodWord
theorem lw_gm {w : Cond} (i : Nat) (h : lw_tbl[i]? = some w) (hg : goodWord w = true) : w ∈ lw_g := List.mem_filter.mpr ⟨List.mem_of_getElem? h, hg⟩
theorem lw_gt {w : Cond} (h : w ∈ lw_g) : w ∈ lw_tbl := (List.mem_filter.mp h).1
theorem lw_all : lw_g.all goodWord = true := List.all_eq_true.mpr fun _ h => (List.mem_filter.mp h).2
abbrev xR0 : String := "TurningVerse$Fit"
def xT0 : u_T := fun k => match k with
  | 0 => ("TurningVerse$Fit", "n", "I", false)
  | 1 => ("TurningVerse$Fit", "kept", "[I", true)
  | 2 => ("TurningVerse$Fit", "allowed", "[I", true)
  | _ => ("TurningVerse$Fit", "most", "[I", true)
abbrev xR1 : String := "TurningVerse$History"
def xT1 : u_T := fun k => match k with
  | 0 => ("TurningVerse$History", "count", "I", false)
  | 1 => ("TurningVerse$History", "next", "I", false)
  | _ => ("TurningVerse$History", "states", "[LTurningVerse$State;", true)
abbrev xR2 : String := "TurningVerse$Poem"
def xT2 : u_T := fun k => match k with
  | 0 => ("TurningVerse$Poem", "count", "I", false)
  | 1 => ("TurningVerse$Poem", "tailLines", "I", false)
  | 2 => ("TurningVerse$Poem", "rows", "[I", true)
  | 3 => ("TurningVerse$Poem", "locks", "[I", true)
  | 4 => ("TurningVerse$Poem", "tailRows", "[I", true)
  | _ => ("TurningVerse$Poem", "tailLengths", "[I", true)
abbrev xR3 : String := "TurningVerse$PoemReader"
def xT3 : u_T := fun k => match k with
  | 0 => ("TurningVerse$PoemReader", "n", "I", false)
  | 1 => ("TurningVerse$PoemReader", "poem", "LTurningVerse$Poem;", true)
  | _ => ("TurningVerse$PoemReader", "pos", "I", false)
abbrev xR4 : String := "TurningVerse$Search"
def xT4 : u_T := fun k => match k with
  | 0 => ("TurningVerse$Search", "count", "I", false)
  | 1 => ("TurningVerse$Search", "n", "I", false)
  | 2 => ("TurningVerse$Search", "set", "I", false)
  | 3 => ("TurningVerse$Search", "factors", "[I", true)
  | 4 => ("TurningVerse$Search", "found", "[I", true)
  | _ => ("TurningVerse$Search", "depths", "[I", true)
abbrev xR5 : String := "TurningVerse$State"
def xT5 : u_T := fun k => match k with
  | 0 => ("TurningVerse$State", "n", "I", false)
  | 1 => ("TurningVerse$State", "sounds", "I", false)
  | 2 => ("TurningVerse$State", "registers", "[I", true)
  | _ => ("TurningVerse$State", "poem", "LTurningVerse$Poem;", true)
abbrev xR6 : String := "TurningVerse$Text"
def xT6 : u_T := fun k => match k with
  | 0 => ("TurningVerse$Text", "length", "I", false)
  | _ => ("TurningVerse$Text", "bytes", "[I", true)
abbrev xR7 : String := "TurningVerse$TurnReader"
def xT7 : u_T := fun k => match k with
  | _ => ("TurningVerse$TurnReader", "permutation", "I", false)
abbrev xR8 : String := "TurningVerse"
def xT8 : u_T := fun k => match k with
  | 0 => ("TurningVerse", "now", "LTurningVerse$State;", true)
  | 1 => ("TurningVerse", "history", "LTurningVerse$History;", true)
  | 2 => ("TurningVerse", "text", "LTurningVerse$Text;", true)
  | 3 => ("TurningVerse", "poemReader", "LTurningVerse$PoemReader;", true)
  | 4 => ("TurningVerse", "turnReader", "LTurningVerse$TurnReader;", true)
  | 5 => ("TurningVerse", "search", "LTurningVerse$Search;", true)
  | 6 => ("TurningVerse", "fit", "LTurningVerse$Fit;", true)
  | _ => ("TurningVerse", "schemesSeen", "[I", true)
abbrev xcl : List vw_C := [(xR0, xT0, 4), (xR1, xT1, 3), (xR2, xT2, 6), (xR3, xT3, 3), (xR4, xT4, 6), (xR5, xT5, 4), (xR6, xT6, 2), (xR7, xT7, 1), (xR8, xT8, 8)]
def xfty (ci k : Nat) : FieldType := match ci with
  | 0 => match k with
    | 0 => .int
    | 1 => .array .int
    | 2 => .array .int
    | _ => .array .int
  | 1 => match k with
    | 0 => .int
    | 1 => .int
    | _ => .array (.object "TurningVerse$State")
  | 2 => match k with
    | 0 => .int
    | 1 => .int
    | 2 => .array .int
    | 3 => .array .int
    | 4 => .array .int
    | _ => .array .int
  | 3 => match k with
    | 0 => .int
    | 1 => .object "TurningVerse$Poem"
    | _ => .int
  | 4 => match k with
    | 0 => .int
    | 1 => .int
    | 2 => .int
    | 3 => .array .int
    | 4 => .array .int
    | _ => .array .int
  | 5 => match k with
    | 0 => .int
    | 1 => .int
    | 2 => .array .int
    | _ => .object "TurningVerse$Poem"
  | 6 => match k with
    | 0 => .int
    | _ => .array .int
  | 7 => match k with
    | _ => .int
  | 8 => match k with
    | 0 => .object "TurningVerse$State"
    | 1 => .object "TurningVerse$History"
    | 2 => .object "TurningVerse$Text"
    | 3 => .object "TurningVerse$PoemReader"
    | 4 => .object "TurningVerse$TurnReader"
    | 5 => .object "TurningVerse$Search"
    | 6 => .object "TurningVerse$Fit"
    | _ => .array .int
  | _ => .int
def xdef (ci : Nat) : List Value := match ci with
  | 0 => [.int 0, .null, .null, .null]
  | 1 => [.int 0, .int 0, .null]
  | 2 => [.int 0, .int 0, .null, .null, .null, .null]
  | 3 => [.int 0, .null, .int 0]
  | 4 => [.int 0, .int 0, .int 0, .null, .null, .null]
  | 5 => [.int 0, .int 0, .null, .null]
  | 6 => [.int 0, .null]
  | 7 => [.int 0]
  | 8 => [.null, .null, .null, .null, .null, .null, .null, .null]
  | _ => []
abbrev xrn : String := "TurningVerse$State"
abbrev xrc : Nat := 5
theorem xrc_ok : ∃ rc, xcl[xrc]? = some rc ∧ rc.1 = xrn := ⟨_, rfl, rfl⟩
