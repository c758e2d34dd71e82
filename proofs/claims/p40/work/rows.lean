section
-- ===== PART A: goes FIRST, ahead of the names: the tables' words, and 'selects' of the private methods out of them =====
/-- a private method of a class that the tables say can be made, by its rows of tables_1 -/
def lw_okq (q : MethodName × Nat) : Prop := (q.1.cls ≠ "java/lang/invoke/MethodHandle" ∧ q.1.cls ≠ "java/lang/invoke/VarHandle") ∧ Cond.instantiable q.1.cls q.2 ∈ tables_1 ∧ Cond.privateMethod q.1 ∈ tables_1 ∧ Cond.instanceMethod q.1 ∈ tables_1
theorem lw_p0 : lw_okq (⟨"TurningVerse", "store", "(II)I"⟩, 8) := ⟨⟨by decide +kernel, by decide +kernel⟩, List.mem_of_getElem? (i := 17) (by decide +kernel), List.mem_of_getElem? (i := 272) (by decide +kernel), List.mem_of_getElem? (i := 273) (by decide +kernel)⟩
theorem lw_p1 : lw_okq (⟨"TurningVerse$Search", "note", "(II)V"⟩, 6) := ⟨⟨by decide +kernel, by decide +kernel⟩, List.mem_of_getElem? (i := 161) (by decide +kernel), List.mem_of_getElem? (i := 360) (by decide +kernel), List.mem_of_getElem? (i := 361) (by decide +kernel)⟩
theorem lw_p2 : lw_okq (⟨"TurningVerse$Search", "isFactor", "(I)Z"⟩, 6) := ⟨⟨by decide +kernel, by decide +kernel⟩, List.mem_of_getElem? (i := 161) (by decide +kernel), List.mem_of_getElem? (i := 369) (by decide +kernel), List.mem_of_getElem? (i := 370) (by decide +kernel)⟩
theorem lw_p3 : lw_okq (⟨"TurningVerse$Search", "firstFactor", "(I)I"⟩, 6) := ⟨⟨by decide +kernel, by decide +kernel⟩, List.mem_of_getElem? (i := 161) (by decide +kernel), List.mem_of_getElem? (i := 395) (by decide +kernel), List.mem_of_getElem? (i := 396) (by decide +kernel)⟩
theorem lw_p4 : lw_okq (⟨"TurningVerse$Search", "without", "(II)I"⟩, 6) := ⟨⟨by decide +kernel, by decide +kernel⟩, List.mem_of_getElem? (i := 161) (by decide +kernel), List.mem_of_getElem? (i := 399) (by decide +kernel), List.mem_of_getElem? (i := 400) (by decide +kernel)⟩
theorem lw_p5 : lw_okq (⟨"TurningVerse", "isLine", "(I)Z"⟩, 8) := ⟨⟨by decide +kernel, by decide +kernel⟩, List.mem_of_getElem? (i := 17) (by decide +kernel), List.mem_of_getElem? (i := 408) (by decide +kernel), List.mem_of_getElem? (i := 409) (by decide +kernel)⟩
theorem lw_p6 : lw_okq (⟨"TurningVerse", "isStanza", "(I)Z"⟩, 8) := ⟨⟨by decide +kernel, by decide +kernel⟩, List.mem_of_getElem? (i := 17) (by decide +kernel), List.mem_of_getElem? (i := 450) (by decide +kernel), List.mem_of_getElem? (i := 451) (by decide +kernel)⟩
theorem lw_p7 : lw_okq (⟨"TurningVerse$Fit", "compare", "(LTurningVerse$Poem;II)V"⟩, 4) := ⟨⟨by decide +kernel, by decide +kernel⟩, List.mem_of_getElem? (i := 187) (by decide +kernel), List.mem_of_getElem? (i := 482) (by decide +kernel), List.mem_of_getElem? (i := 483) (by decide +kernel)⟩
theorem lw_p8 : lw_okq (⟨"TurningVerse$Fit", "mostKept", "()I"⟩, 4) := ⟨⟨by decide +kernel, by decide +kernel⟩, List.mem_of_getElem? (i := 187) (by decide +kernel), List.mem_of_getElem? (i := 490) (by decide +kernel), List.mem_of_getElem? (i := 491) (by decide +kernel)⟩
theorem lw_p9 : lw_okq (⟨"TurningVerse$Fit", "keptWith", "(III)I"⟩, 4) := ⟨⟨by decide +kernel, by decide +kernel⟩, List.mem_of_getElem? (i := 187) (by decide +kernel), List.mem_of_getElem? (i := 495) (by decide +kernel), List.mem_of_getElem? (i := 496) (by decide +kernel)⟩
theorem lw_p10 : lw_okq (⟨"TurningVerse$Fit", "atMostKept", "()I"⟩, 4) := ⟨⟨by decide +kernel, by decide +kernel⟩, List.mem_of_getElem? (i := 187) (by decide +kernel), List.mem_of_getElem? (i := 525) (by decide +kernel), List.mem_of_getElem? (i := 526) (by decide +kernel)⟩
theorem lw_p11 : lw_okq (⟨"TurningVerse$Fit", "mostOfLine", "(I)I"⟩, 4) := ⟨⟨by decide +kernel, by decide +kernel⟩, List.mem_of_getElem? (i := 187) (by decide +kernel), List.mem_of_getElem? (i := 529) (by decide +kernel), List.mem_of_getElem? (i := 530) (by decide +kernel)⟩
theorem lw_p12 : lw_okq (⟨"TurningVerse$Fit", "mostOfWord", "(I)I"⟩, 4) := ⟨⟨by decide +kernel, by decide +kernel⟩, List.mem_of_getElem? (i := 187) (by decide +kernel), List.mem_of_getElem? (i := 533) (by decide +kernel), List.mem_of_getElem? (i := 534) (by decide +kernel)⟩
theorem lw_p13 : lw_okq (⟨"TurningVerse$Fit", "firstWord", "(II)I"⟩, 4) := ⟨⟨by decide +kernel, by decide +kernel⟩, List.mem_of_getElem? (i := 187) (by decide +kernel), List.mem_of_getElem? (i := 554) (by decide +kernel), List.mem_of_getElem? (i := 555) (by decide +kernel)⟩
def lw_privs_1 : List (MethodName × Nat) := [(⟨"TurningVerse", "store", "(II)I"⟩, 8), (⟨"TurningVerse$Search", "note", "(II)V"⟩, 6), (⟨"TurningVerse$Search", "isFactor", "(I)Z"⟩, 6), (⟨"TurningVerse$Search", "firstFactor", "(I)I"⟩, 6), (⟨"TurningVerse$Search", "without", "(II)I"⟩, 6), (⟨"TurningVerse", "isLine", "(I)Z"⟩, 8), (⟨"TurningVerse", "isStanza", "(I)Z"⟩, 8), (⟨"TurningVerse$Fit", "compare", "(LTurningVerse$Poem;II)V"⟩, 4), (⟨"TurningVerse$Fit", "mostKept", "()I"⟩, 4), (⟨"TurningVerse$Fit", "keptWith", "(III)I"⟩, 4), (⟨"TurningVerse$Fit", "atMostKept", "()I"⟩, 4), (⟨"TurningVerse$Fit", "mostOfLine", "(I)I"⟩, 4), (⟨"TurningVerse$Fit", "mostOfWord", "(I)I"⟩, 4), (⟨"TurningVerse$Fit", "firstWord", "(II)I"⟩, 4)]
theorem lw_r1 : ∀ q ∈ lw_privs_1, lw_okq q := List.forall_mem_cons.mpr ⟨lw_p0, List.forall_mem_cons.mpr ⟨lw_p1, List.forall_mem_cons.mpr ⟨lw_p2, List.forall_mem_cons.mpr ⟨lw_p3, List.forall_mem_cons.mpr ⟨lw_p4, List.forall_mem_cons.mpr ⟨lw_p5, List.forall_mem_cons.mpr ⟨lw_p6, List.forall_mem_cons.mpr ⟨lw_p7, List.forall_mem_cons.mpr ⟨lw_p8, List.forall_mem_cons.mpr ⟨lw_p9, List.forall_mem_cons.mpr ⟨lw_p10, List.forall_mem_cons.mpr ⟨lw_p11, List.forall_mem_cons.mpr ⟨lw_p12, List.forall_mem_cons.mpr ⟨lw_p13, fun _ h => absurd h List.not_mem_nil⟩⟩⟩⟩⟩⟩⟩⟩⟩⟩⟩⟩⟩⟩
def lw_privs : List (MethodName × Nat) := lw_privs_1
def lw_tbl : List Cond := k2_sels lw_privs ++ tables_1
theorem lw_privs_ok : ∀ q ∈ lw_privs, lw_okq q := lw_r1
-- ===== end of PART A =====
def lw_g : List Cond := lw_tbl.filter goodWord
theorem lw_gm {w : Cond} (i : Nat) (h : lw_tbl[i]? = some w) (hg : goodWord w = true) : w ∈ lw_g := List.mem_filter.mpr ⟨List.mem_of_getElem? h, hg⟩
theorem lw_gt {w : Cond} (h : w ∈ lw_g) : w ∈ lw_tbl := (List.mem_filter.mp h).1
theorem lw_all : lw_g.all goodWord = true := List.all_eq_true.mpr fun _ h => (List.mem_filter.mp h).2
abbrev xR0 : String := "TurningVerse$Fit"
def xT0 : u_T := fun k => match k with
  | 0 => ("TurningVerse$Fit", "n", "I", false)
  | 1 => ("TurningVerse$Fit", "kept", "[I", true)
  | 2 => ("TurningVerse$Fit", "allowed", "[I", true)
  | _ => ("TurningVerse$Fit", "most", "[I", true)
abbrev xR1 : String := "TurningVerse$History"
def xT1 : u_T := fun k => match k with
  | 0 => ("TurningVerse$History", "count", "I", false)
  | 1 => ("TurningVerse$History", "next", "I", false)
  | _ => ("TurningVerse$History", "states", "[LTurningVerse$State;", true)
abbrev xR2 : String := "TurningVerse$Poem"
def xT2 : u_T := fun k => match k with
  | 0 => ("TurningVerse$Poem", "count", "I", false)
  | 1 => ("TurningVerse$Poem", "tailLines", "I", false)
  | 2 => ("TurningVerse$Poem", "rows", "[I", true)
  | 3 => ("TurningVerse$Poem", "locks", "[I", true)
  | 4 => ("TurningVerse$Poem", "tailRows", "[I", true)
  | _ => ("TurningVerse$Poem", "tailLengths", "[I", true)
abbrev xR3 : String := "TurningVerse$PoemReader"
def xT3 : u_T := fun k => match k with
  | 0 => ("TurningVerse$PoemReader", "n", "I", false)
  | 1 => ("TurningVerse$PoemReader", "poem", "LTurningVerse$Poem;", true)
  | _ => ("TurningVerse$PoemReader", "pos", "I", false)
abbrev xR4 : String := "TurningVerse$Search"
def xT4 : u_T := fun k => match k with
  | 0 => ("TurningVerse$Search", "count", "I", false)
  | 1 => ("TurningVerse$Search", "n", "I", false)
  | 2 => ("TurningVerse$Search", "set", "I", false)
  | 3 => ("TurningVerse$Search", "factors", "[I", true)
  | 4 => ("TurningVerse$Search", "found", "[I", true)
  | _ => ("TurningVerse$Search", "depths", "[I", true)
abbrev xR5 : String := "TurningVerse$State"
def xT5 : u_T := fun k => match k with
  | 0 => ("TurningVerse$State", "n", "I", false)
  | 1 => ("TurningVerse$State", "sounds", "I", false)
  | 2 => ("TurningVerse$State", "registers", "[I", true)
  | _ => ("TurningVerse$State", "poem", "LTurningVerse$Poem;", true)
abbrev xR6 : String := "TurningVerse$Text"
def xT6 : u_T := fun k => match k with
  | 0 => ("TurningVerse$Text", "length", "I", false)
  | _ => ("TurningVerse$Text", "bytes", "[I", true)
abbrev xR7 : String := "TurningVerse$TurnReader"
def xT7 : u_T := fun k => match k with
  | _ => ("TurningVerse$TurnReader", "permutation", "I", false)
abbrev xR8 : String := "TurningVerse"
def xT8 : u_T := fun k => match k with
  | 0 => ("TurningVerse", "now", "LTurningVerse$State;", true)
  | 1 => ("TurningVerse", "history", "LTurningVerse$History;", true)
  | 2 => ("TurningVerse", "text", "LTurningVerse$Text;", true)
  | 3 => ("TurningVerse", "poemReader", "LTurningVerse$PoemReader;", true)
  | 4 => ("TurningVerse", "turnReader", "LTurningVerse$TurnReader;", true)
  | 5 => ("TurningVerse", "search", "LTurningVerse$Search;", true)
  | 6 => ("TurningVerse", "fit", "LTurningVerse$Fit;", true)
  | _ => ("TurningVerse", "schemesSeen", "[I", true)
abbrev xcl : List vw_C := [(xR0, xT0, 4), (xR1, xT1, 3), (xR2, xT2, 6), (xR3, xT3, 3), (xR4, xT4, 6), (xR5, xT5, 4), (xR6, xT6, 2), (xR7, xT7, 1), (xR8, xT8, 8)]
def xfty (ci k : Nat) : FieldType := match ci with
  | 0 => match k with
    | 0 => .int
    | 1 => .array .int
    | 2 => .array .int
    | _ => .array .int
  | 1 => match k with
    | 0 => .int
    | 1 => .int
    | _ => .array (.object "TurningVerse$State")
  | 2 => match k with
    | 0 => .int
    | 1 => .int
    | 2 => .array .int
    | 3 => .array .int
    | 4 => .array .int
    | _ => .array .int
  | 3 => match k with
    | 0 => .int
    | 1 => .object "TurningVerse$Poem"
    | _ => .int
  | 4 => match k with
    | 0 => .int
    | 1 => .int
    | 2 => .int
    | 3 => .array .int
    | 4 => .array .int
    | _ => .array .int
  | 5 => match k with
    | 0 => .int
    | 1 => .int
    | 2 => .array .int
    | _ => .object "TurningVerse$Poem"
  | 6 => match k with
    | 0 => .int
    | _ => .array .int
  | 7 => match k with
    | _ => .int
  | 8 => match k with
    | 0 => .object "TurningVerse$State"
    | 1 => .object "TurningVerse$History"
    | 2 => .object "TurningVerse$Text"
    | 3 => .object "TurningVerse$PoemReader"
    | 4 => .object "TurningVerse$TurnReader"
    | 5 => .object "TurningVerse$Search"
    | 6 => .object "TurningVerse$Fit"
    | _ => .array .int
  | _ => .int
def xdef (ci : Nat) : List Value := match ci with
  | 0 => [.int 0, .null, .null, .null]
  | 1 => [.int 0, .int 0, .null]
  | 2 => [.int 0, .int 0, .null, .null, .null, .null]
  | 3 => [.int 0, .null, .int 0]
  | 4 => [.int 0, .int 0, .int 0, .null, .null, .null]
  | 5 => [.int 0, .int 0, .null, .null]
  | 6 => [.int 0, .null]
  | 7 => [.int 0]
  | 8 => [.null, .null, .null, .null, .null, .null, .null, .null]
  | _ => []
abbrev xrn : String := "TurningVerse$State"
abbrev xrc : Nat := 5
theorem xrc_ok : ∃ rc, xcl[xrc]? = some rc ∧ rc.1 = xrn := ⟨_, rfl, rfl⟩
end
section
/-! THE ABSTRACT MACHINE: heaps as functions of relative addresses, a generator of conditions (wp) over the decoded code, and its soundness over the kit's W -/
abbrev xE : Type := (Nat × (Nat → Int32)) ⊕ ((Nat × (Nat → Option Nat)) ⊕ (Nat × List Value))
abbrev xia (n : Nat) (f : Nat → Int32) : xE := .inl (n, f)
abbrev xra (n : Nat) (g : Nat → Option Nat) : xE := .inr (.inl (n, g))
abbrev xob (c : Nat) (fs : List Value) : xE := .inr (.inr (c, fs))
abbrev xHp : Type := Nat × Nat × (Nat → xE)
def xat (h : xHp) (a : Nat) (e : xE) : Prop := a < h.1 ∧ h.2.2 a = e
def xset (h : xHp) (a : Nat) (e : xE) : xHp := (h.1, h.2.1, va_up h.2.2 a e)
def xnew (h : xHp) (n : Nat) (e : xE) : xHp := (h.1 + 1, h.2.1 + n, va_up h.2.2 h.1 e)
/-- the base of the cells, and the script's cell -/
abbrev xB : Type := Nat × Nat
abbrev xLo : Type := List (Nat × Value)
def xcv (b : xB) : Value → Value
  | .ref k => .ref (b.1 + k)
  | .retAddr _ => .ref b.2
  | v => v
def xce (cI cR : ClassId) (b : xB) : xE → va_E
  | .inl (n, f) => .inl (cI, (n, .inl f))
  | .inr (.inl (n, g)) => .inl (cR, (n, .inr (.inr (.inr (.inr (fun j => (g j).map (fun k => b.1 + k)))))))
  | .inr (.inr (c, fs)) => .inr (c, fs.map (xcv b))
def xtys (cI cR : ClassId) : List (ClassId × FieldType) := [(cI, .int), (cR, .object xrn)]
def xWd (D : va_G) (cI cR : ClassId) (b : xB) (h : xHp) (H : Heap) : Prop := H.size = b.1 + h.1 ∧ ∀ k, k < h.1 → va_at D xcl (b.1 + k, xce cI cR b (h.2.2 k)) H
/-- the script: an array of ints below the base -/
def xSc (b : xB) (U : State) (H : Heap) : Prop := b.2 < b.1 ∧ ∃ (L : Nat) (xs : Nat → Int32), va_X b.2 L xs U H ∧ L < 2147483648
def xKk (D : va_G) (cI cR : ClassId) (U : State) : Prop := va_K D xcl (xtys cI cR) U ∧ va_AO xrn U
theorem xKk.moved {D : va_G} {cI cR : ClassId} {u U : State} (hvm : u.vm.Alike U.vm) (h : xKk D cI cR u) : xKk D cI cR U := ⟨va_K.moved hvm h.1, va_AO.moved hvm h.2⟩
/-- a signature: name, bytes, locals, answer's type, frames, words of locals below, parameters, the receiver's class -/
abbrev xSig : Type := MethodName × ByteArray × Nat × Option FieldType × Nat × Nat × Nat × Option Nat
abbrev sgN (g : xSig) : MethodName := g.1
abbrev sgB (g : xSig) : ByteArray := g.2.1
abbrev sgL (g : xSig) : Nat := g.2.2.1
abbrev sgR (g : xSig) : Option FieldType := g.2.2.2.1
abbrev sgF (g : xSig) : Nat := g.2.2.2.2.1
abbrev sgO (g : xSig) : Nat := g.2.2.2.2.2.1
abbrev sgP (g : xSig) : Nat := g.2.2.2.2.2.2.1
abbrev sgV (g : xSig) : Option Nat := g.2.2.2.2.2.2.2
def xwd (g : xSig) : List Cond := Cond.code (sgN g) (sgB g) (sgL g) (sgR g) :: lw_g
def xrm (g : xSig) (mc ms : Nat) : Room := { frames := sgF g, cells := mc, slots := ms, locals := sgO g }
abbrev xL : Type := (Nat × Nat) ⊕ (xSig ⊕ (Int32 ⊕ (Int64 ⊕ (Nat × List (Int32 × Nat)))))
abbrev xI : Type := Instr × Nat × xL
abbrev xCd : Type := List (Nat × xI)
/-! the contract of a method at one start and one end -/
def xQc (D : va_G) (cI cR : ClassId) (b : xB) (v : Option Value) (h' : xHp) : Array Value → State → Outcome → State → Prop := fun _ st o t => o = .returned (v.map (xcv b)) ∧ xWd D cI cR b h' t.heap ∧ xKk D cI cR t ∧ va_F (fun q => b.1 ≤ q) st t
def xQ (D : va_G) (cI cR : ClassId) (b : xB) (Q : Option Value → xHp → Prop) : Array Value → State → Outcome → State → Prop := fun a st o t => ∃ v h', Q v h' ∧ xQc D cI cR b v h' a st o t
def xrecv (g : xSig) (args : List Value) (h : xHp) : Prop := ∀ c, sgV g = some c → ∃ a fs As, args = .ref a :: As ∧ xat h a (xob c fs)
def xtym (t : Option FieldType) (v : Option Value) : Prop := match t with
  | none => v = none
  | some .long => ∃ x, v = some (.long x)
  | some _ => ∃ x, v = some (.int x)
/-- a method that makes cells: how many, and what holds of the heap behind it -/
def SpecA (g : xSig) (args : List Value) (h : xHp) (mc ms : Nat) (P : Option Value → xHp → Prop) : Prop :=
  xrecv g args h ∧ (∀ v h', P v h' → v = none ∧ h'.1 = h.1 + mc ∧ h'.2.1 = h.2.1 + ms) ∧ ∀ (l : Launch) (D : va_G) (cI cR : ClassId) (b : xB),
    Met l (sgN g) (xwd g) (xrm g mc ms) (va_Pc (args.map (xcv b)) (fun U => xWd D cI cR b h U.heap ∧ xKk D cI cR U ∧ xSc b U U.heap)) (xQ D cI cR b P) mc ms (fun q => b.1 ≤ q)
/-- a method that makes none: what holds of its answer and the heap behind it -/
def SpecR (g : xSig) (args : List Value) (h : xHp) (P : Option Value → xHp → Prop) : Prop :=
  xrecv g args h ∧ (∀ v h', P v h' → xtym (sgR g) v ∧ h'.1 = h.1 ∧ h'.2.1 = h.2.1) ∧ ∀ (l : Launch) (D : va_G) (cI cR : ClassId) (b : xB),
    Met l (sgN g) (xwd g) (xrm g 0 0) (va_Pc (args.map (xcv b)) (fun U => xWd D cI cR b h U.heap ∧ xKk D cI cR U ∧ xSc b U U.heap)) (xQ D cI cR b P) 0 0 (fun q => b.1 ≤ q)
/-- the same of a method with an answer that makes cells -/
def SpecN (g : xSig) (args : List Value) (h : xHp) (mc ms : Nat) (P : Option Value → xHp → Prop) : Prop :=
  xrecv g args h ∧ (∀ v h', P v h' → xtym (sgR g) v ∧ h'.1 = h.1 + mc ∧ h'.2.1 = h.2.1 + ms) ∧ ∀ (l : Launch) (D : va_G) (cI cR : ClassId) (b : xB),
    Met l (sgN g) (xwd g) (xrm g mc ms) (va_Pc (args.map (xcv b)) (fun U => xWd D cI cR b h U.heap ∧ xKk D cI cR U ∧ xSc b U U.heap)) (xQ D cI cR b P) mc ms (fun q => b.1 ≤ q)
theorem SpecR.toN {g : xSig} {args : List Value} {h : xHp} {P : Option Value → xHp → Prop} (k : SpecR g args h P) : SpecN g args h 0 0 P := k
def Spec (g : xSig) (args : List Value) (h : xHp) (v : Option Value) (h' : xHp) : Prop := SpecR g args h (fun v2 h2 => v2 = v ∧ h2 = h')
/-! a point of a method's walk -/
def xFix (p : Program) (s : State) (m : MethodId) (args : Array Value) (meth : Method) (c : Code) (g : xSig) : Prop :=
  p.tables.exec = Jvm.exec ∧ c.code = sgB g ∧ meth.sig.returnType = sgR g ∧ meth.locks = false ∧ c.maxLocals = sgL g ∧ s.vm.findClass (sgN g).cls = some m.cls ∧ meth.name = (sgN g).name ∧ ∀ w ∈ xwd g, w.before args s = true
def xcL (b : xB) (L : xLo) : xLo := L.map (fun q => (q.1, xcv b q.2))
def xCx (lim : Nat × Nat) (g : xSig) (D : va_G) (cI cR : ClassId) (b : xB) (N0 S0 : Nat) (s : State) (h : xHp) (H : Heap) (locs : List Loc) : Prop :=
  xKk D cI cR s ∧ xWd D cI cR b h H ∧ va_S (fun q => b.1 ≤ q) s.heap H locs ∧ (b.1 + N0 = s.heap.size ∧ xSc b s s.heap) ∧ N0 ≤ h.1 ∧ h.1 ≤ lim.1 ∧ S0 ≤ h.2.1 ∧ h.2.1 ≤ lim.2
def xAt (lim : Nat × Nat) (g : xSig) (Q : Option Value → xHp → Prop) (pc : Nat) (L : xLo) (st : List Value) (h : xHp) : Prop :=
  ∀ (p : Program) (l : Launch) (e : Env) (s : State) (m : MethodId) (args : Array Value) (below : List Frame) (meth : Method) (c : Code) (D : va_G) (cI cR : ClassId) (b : xB) (N0 S0 : Nat) (H : Heap) (locs : List Loc) (ls : Array Slot),
    xFix p s m args meth c g → xCx lim g D cI cR b N0 S0 s h H locs → lv_has ls (sgL g) (xcL b L) →
    W p l e (xrm g (lim.1 - N0) (lim.2 - S0)) s m args below meth c H locs (h.1 - N0) (h.2.1 - S0) (MQ below (xQ D cI cR b Q) args s (lim.1 - N0) (lim.2 - S0) (fun q => b.1 ≤ q)) (F0 m pc ls (st.map (xcv b)))
/-! locals -/
def xget : xLo → Nat → Option Value
  | [], _ => none
  | (j, v) :: L, i => bif Nat.beq j i then some v else xget L i
def xins : xLo → Nat → Value → xLo
  | [], i, v => [(i, v)]
  | (j, w) :: L, i, v => bif Nat.blt i j then (i, v) :: (j, w) :: L else (j, w) :: xins L i v
def xk1 (i : Nat) (q : Nat × Value) : Bool := !(q.1 == i) && !(q.1 + 1 == i && q.2.category == 2)
def xk2 (i : Nat) (q : Nat × Value) : Bool := !(q.1 == i) && (!(q.1 == i + 1) && !(q.1 + 1 == i && q.2.category == 2))
def xflt (p : Nat × Value → Bool) : xLo → xLo
  | [] => []
  | q :: L => bif p q then q :: xflt p L else xflt p L
def xput1 (L : xLo) (i : Nat) (v : Value) : xLo := xins (xflt (xk1 i) L) i v
def xput2 (L : xLo) (i : Nat) (v : Value) : xLo := xins (xflt (xk2 i) L) i v
def xmem : List Nat → Nat → Bool
  | [], _ => false
  | j :: l, i => bif Nat.beq j i then true else xmem l i
def xsel (L : xLo) (ks : List Nat) : xLo := xflt (fun q => xmem ks q.1) L
def xfind : xCd → Nat → Option xI
  | [], _ => none
  | (q, i) :: r, pc => bif Nat.beq q pc then some i else xfind r pc
def xcut : List (Nat × List Nat) → Nat → Option (List Nat)
  | [], _ => none
  | (q, i) :: r, pc => bif Nat.beq q pc then some i else xcut r pc
def xcats : List Value → Nat
  | [] => 0
  | v :: st => v.category + xcats st
theorem nb_eq {a b : Nat} (h : Nat.beq a b = true) : a = b := Nat.eq_of_beq_eq_true h
theorem nb_ne {a b : Nat} (h : Nat.beq a b = false) : ¬ a = b := Nat.ne_of_beq_eq_false h
theorem xget_mem : ∀ {L : xLo} {i : Nat} {v : Value}, xget L i = some v → (i, v) ∈ L
  | [], _, _, h => by cases h
  | (j, w) :: L, i, v, h => by
    unfold xget at h
    cases hb : Nat.beq j i with
    | true => rw [hb] at h; cases h; rw [nb_eq hb]; exact List.mem_cons_self
    | false => rw [hb] at h; exact List.mem_cons_of_mem _ (xget_mem h)
theorem xins_mem : ∀ {L : xLo} {i : Nat} {v : Value} {q : Nat × Value}, q ∈ xins L i v → q = (i, v) ∨ q ∈ L
  | [], _, _, _, h => by
    unfold xins at h
    exact Or.inl (List.mem_singleton.mp h)
  | (j, w) :: L, i, v, q, h => by
    unfold xins at h
    cases hb : Nat.blt i j with
    | true => rw [hb] at h; exact (List.mem_cons.mp h).elim Or.inl Or.inr
    | false =>
      rw [hb] at h
      rcases List.mem_cons.mp h with h | h
      · exact Or.inr (h ▸ List.mem_cons_self)
      · exact (xins_mem h).elim Or.inl (fun z => Or.inr (List.mem_cons_of_mem _ z))
theorem xflt_mem {p : Nat × Value → Bool} : ∀ {L : xLo} {q : Nat × Value}, q ∈ xflt p L → q ∈ L ∧ p q = true
  | [], _, h => by cases h
  | r :: L, q, h => by
    unfold xflt at h
    cases hb : p r with
    | true =>
      rw [hb] at h
      rcases List.mem_cons.mp h with h | h
      · subst h; exact ⟨List.mem_cons_self, hb⟩
      · exact ⟨List.mem_cons_of_mem _ (xflt_mem h).1, (xflt_mem h).2⟩
    | false => rw [hb] at h; exact ⟨List.mem_cons_of_mem _ (xflt_mem h).1, (xflt_mem h).2⟩
theorem xfind_mem : ∀ {cd : xCd} {pc : Nat} {i : xI}, xfind cd pc = some i → (pc, i) ∈ cd
  | [], _, _, h => by cases h
  | (j, w) :: L, i, v, h => by
    unfold xfind at h
    cases hb : Nat.beq j i with
    | true => rw [hb] at h; cases h; rw [nb_eq hb]; exact List.mem_cons_self
    | false => rw [hb] at h; exact List.mem_cons_of_mem _ (xfind_mem h)
theorem xcv_cat (b : xB) (v : Value) : (xcv b v).category = v.category := by cases v <;> rfl
theorem xcats_eq (b : xB) : ∀ st : List Value, ((st.map (xcv b)).map fun v => v.category).sum = xcats st
  | [] => rfl
  | v :: st => by
    simp only [List.map_cons, List.sum_cons, xcats, xcv_cat]
    rw [xcats_eq b st]
theorem xl_get {ls : Array Slot} {b : xB} {n i : Nat} {L : xLo} {v : Value} (h : lv_has ls n (xcL b L)) (hg : xget L i = some v) : ls[i]? = some (.val (xcv b v)) :=
  h.2.2 (i, xcv b v) (List.mem_map.mpr ⟨(i, v), xget_mem hg, rfl⟩)
theorem xl_sub {ls : Array Slot} {b : xB} {n : Nat} {L L' : xLo} (h : lv_has ls n (xcL b L)) (hs : ∀ q ∈ L', q ∈ L) : lv_has ls n (xcL b L') :=
  ⟨h.1, h.2.1, fun q hq => by
    obtain ⟨r, hr, rfl⟩ := List.mem_map.mp hq
    exact h.2.2 _ (List.mem_map.mpr ⟨r, hs r hr, rfl⟩)⟩
theorem xl_of {ls : Array Slot} {n : Nat} {l l' : xLo} (h : lv_has ls n l) (hs : ∀ q ∈ l', q ∈ l) : lv_has ls n l' := ⟨h.1, h.2.1, fun q hq => h.2.2 q (hs q hq)⟩
theorem xl_put1 {b : xB} {L : xLo} {i : Nat} {v : Value} : ∀ q ∈ xcL b (xput1 L i v), q ∈ (i, xcv b v) :: (xcL b L).filter (fun q => !(q.1 == i) && !(q.1 + 1 == i && q.2.category == 2)) := by
  intro q hq
  obtain ⟨r, hr, rfl⟩ := List.mem_map.mp hq
  rcases xins_mem hr with h | h
  · subst h; exact List.mem_cons_self
  · obtain ⟨h1, h2⟩ := xflt_mem h
    refine List.mem_cons_of_mem _ (List.mem_filter.mpr ⟨List.mem_map.mpr ⟨r, h1, rfl⟩, ?_⟩)
    simp only [xcv_cat]
    exact h2
theorem xl_put2 {b : xB} {L : xLo} {i : Nat} {v : Value} : ∀ q ∈ xcL b (xput2 L i v), q ∈ (i, xcv b v) :: (xcL b L).filter (fun q => !(q.1 == i) && (!(q.1 == i + 1) && !(q.1 + 1 == i && q.2.category == 2))) := by
  intro q hq
  obtain ⟨r, hr, rfl⟩ := List.mem_map.mp hq
  rcases xins_mem hr with h | h
  · subst h; exact List.mem_cons_self
  · obtain ⟨h1, h2⟩ := xflt_mem h
    refine List.mem_cons_of_mem _ (List.mem_filter.mpr ⟨List.mem_map.mpr ⟨r, h1, rfl⟩, ?_⟩)
    simp only [xcv_cat]
    exact h2
theorem xAt_sub {lim : Nat × Nat} {g : xSig} {Q : Option Value → xHp → Prop} {pc : Nat} {L L' : xLo} {st : List Value} {h : xHp} (k : xAt lim g Q pc L' st h) (hs : ∀ q ∈ L', q ∈ L) : xAt lim g Q pc L st h :=
  fun p l e s m args below meth c D cI cR b N0 S0 H locs ls X C hl => k p l e s m args below meth c D cI cR b N0 S0 H locs ls X C (xl_sub hl hs)
theorem xsel_mem {L : xLo} {ks : List Nat} : ∀ q ∈ xsel L ks, q ∈ L := fun _ h => (xflt_mem h).1
/-! stacks -/
def xp1 (st : List Value) (f : Value → List Value → Prop) : Prop := match st with
  | v :: r => f v r
  | _ => False
def xpi (st : List Value) (f : Int32 → List Value → Prop) : Prop := match st with
  | .int x :: r => f x r
  | _ => False
def xpl (st : List Value) (f : Int64 → List Value → Prop) : Prop := match st with
  | .long x :: r => f x r
  | _ => False
def xpr (st : List Value) (f : Nat → List Value → Prop) : Prop := match st with
  | .ref x :: r => f x r
  | _ => False
theorem xp1_el {st : List Value} {f : Value → List Value → Prop} (h : xp1 st f) : ∃ x r, st = x :: r ∧ f x r := by
  match st, h with
  | v :: r, h => exact ⟨v, r, rfl, h⟩
theorem xpi_el {st : List Value} {f : Int32 → List Value → Prop} (h : xpi st f) : ∃ x r, st = .int x :: r ∧ f x r := by
  match st, h with
  | .int v :: r, h => exact ⟨v, r, rfl, h⟩
theorem xpl_el {st : List Value} {f : Int64 → List Value → Prop} (h : xpl st f) : ∃ x r, st = .long x :: r ∧ f x r := by
  match st, h with
  | .long v :: r, h => exact ⟨v, r, rfl, h⟩
theorem xpr_el {st : List Value} {f : Nat → List Value → Prop} (h : xpr st f) : ∃ x r, st = .ref x :: r ∧ f x r := by
  match st, h with
  | .ref v :: r, h => exact ⟨v, r, rfl, h⟩
/-- the topmost n values, the deepest first -/
def xpop : Nat → List Value → List Value → Option (List Value × List Value)
  | 0, As, st => some (As, st)
  | n + 1, As, v :: st => xpop n (v :: As) st
  | _ + 1, _, [] => none
theorem xpop_el : ∀ {n : Nat} {As0 st As r : List Value}, xpop n As0 st = some (As, r) → ∃ B, As = B ++ As0 ∧ st = B.reverse ++ r ∧ B.length = n
  | 0, As0, st, As, r, h => by
    unfold xpop at h
    cases h
    exact ⟨[], rfl, rfl, rfl⟩
  | n + 1, As0, v :: st, As, r, h => by
    unfold xpop at h
    obtain ⟨B, h1, h2, h3⟩ := xpop_el h
    refine ⟨B ++ [v], by rw [h1]; simp, by rw [h2]; simp, by simp [h3]⟩
  | n + 1, As0, [], As, r, h => by
    unfold xpop at h
    cases h
def xix (i : Int32) (j n : Nat) : Prop := i = nI j ∧ j < n ∧ n < 2147483648
theorem xix_in {i : Int32} {j n : Nat} (h : xix i j n) : vp_in i n ∧ i.toNatClampNeg = j := by
  obtain ⟨rfl, h1, h2⟩ := h
  exact ⟨nI_in h1 h2, nI_clamp (Nat.lt_trans h1 h2)⟩
def xvk : FieldType → Value → Bool
  | .int, .int _ => true
  | .object _, .ref _ => true
  | .array _, .ref _ => true
  | _, _ => false
theorem xvk_ok {ty : FieldType} {v : Value} (b : xB) (h : xvk ty v = true) : narrow ty (xcv b v) = xcv b v ∧ fits ty (xcv b v) = true := by
  cases ty <;> cases v <;> first | exact ⟨rfl, rfl⟩ | cases h
def xsw : List (Int32 × Nat) → Int32 → (Nat → Prop) → Nat → Prop
  | [], _, k, d => k d
  | (v, t) :: r, x, k, d => (x = v → k t) ∧ (¬ x = v → xsw r x k d)
end
section
/-! ONE STEP: the condition of an instruction; 'k' is what must hold behind it -/
def xlv (lk : xL) (f : Int32 → Prop) : Prop := match lk with
  | .inr (.inr (.inl v)) => f v
  | _ => False
def xlw (lk : xL) (f : Int64 → Prop) : Prop := match lk with
  | .inr (.inr (.inr (.inl v))) => f v
  | _ => False
def xlf (lk : xL) (f : Nat → Nat → Prop) : Prop := match lk with
  | .inl (a, b) => f a b
  | _ => False
def xgi (L : xLo) (i : Nat) (f : Int32 → Prop) : Prop := match xget L i with
  | some (.int x) => f x
  | _ => False
def xgl (L : xLo) (i : Nat) (f : Int64 → Prop) : Prop := match xget L i with
  | some (.long x) => f x
  | _ => False
def xgr (L : xLo) (i : Nat) (f : Nat → Prop) : Prop := match xget L i with
  | some (.ref x) => f x
  | _ => False
def xgq (L : xLo) (i : Nat) (f : Value → Prop) : Prop := match xget L i with
  | some (.ref x) => f (.ref x)
  | some (.retAddr x) => f (.retAddr x)
  | _ => False
theorem xgq_el {b : xB} {L : xLo} {i : Nat} {f : Value → Prop} (h : xgq L i f) : ∃ v x, xget L i = some v ∧ xcv b v = .ref x ∧ f v := by
  unfold xgq at h
  split at h
  · exact ⟨_, _, by assumption, rfl, h⟩
  · exact ⟨_, _, by assumption, rfl, h⟩
  · exact h.elim
theorem xgi_el {L : xLo} {i : Nat} {f : Int32 → Prop} (h : xgi L i f) : ∃ x, xget L i = some (.int x) ∧ f x := by
  unfold xgi at h
  split at h
  · exact ⟨_, by assumption, h⟩
  · exact h.elim
theorem xgl_el {L : xLo} {i : Nat} {f : Int64 → Prop} (h : xgl L i f) : ∃ x, xget L i = some (.long x) ∧ f x := by
  unfold xgl at h
  split at h
  · exact ⟨_, by assumption, h⟩
  · exact h.elim
theorem xgr_el {L : xLo} {i : Nat} {f : Nat → Prop} (h : xgr L i f) : ∃ x, xget L i = some (.ref x) ∧ f x := by
  unfold xgr at h
  split at h
  · exact ⟨_, by assumption, h⟩
  · exact h.elim
/-- what a call asks, by the answer's type -/
def xcaR (g : xSig) (As : List Value) (h : xHp) (k : List Value → xHp → Prop) : Prop := match sgR g with
  | none => ∃ P : Option Value → xHp → Prop, SpecR g As h P ∧ ∀ h', P none h' → k [] h'
  | some .long => ∃ P : Option Value → xHp → Prop, SpecR g As h P ∧ ∀ (r : Int64) (h' : xHp), P (some (.long r)) h' → k [.long r] h'
  | some _ => ∃ P : Option Value → xHp → Prop, SpecR g As h P ∧ ∀ (r : Int32) (h' : xHp), P (some (.int r)) h' → k [.int r] h'
def xcal (lim : Nat × Nat) (g : xSig) (As : List Value) (h : xHp) (k : List Value → xHp → Prop) : Prop := xcaR g As h k ∨ ∃ mc ms, ∃ P : Option Value → xHp → Prop, SpecN g As h mc ms P ∧ h.1 + mc ≤ lim.1 ∧ h.2.1 + ms ≤ lim.2 ∧ ∀ v h', P v h' → k v.toList h'
/-- a branch -/
def xbr (c : Prop) (a b : Prop) : Prop := (c → a) ∧ (¬ c → b)
/-- an answer of a type that is narrower than int -/
def xrt (g : xSig) (v : Int32) (q : Prop) : Prop := match sgR g with
  | some .int => q
  | some .boolean => (v = nI 0 ∨ v = nI 1) ∧ q
  | _ => False
def xcpw : Nat := nativeFrameWords "java/lang/System" "arraycopy" 5 + 11
abbrev xK : Type := Nat → xLo → List Value → xHp → Prop
def xnil (st : List Value) (p : Prop) : Prop := match st with
  | [] => p
  | _ => False
def xtsw (k : xK) (L : xLo) (st : List Value) (h : xHp) (lk : xL) : Prop := match lk with
  | .inr (.inr (.inr (.inr (d, ps)))) => xpi st fun x r => xsw ps x (fun t => k t L r h) d
  | _ => False
def xist (lim : Nat × Nat) (k : xK) (pc len : Nat) (L : xLo) (st : List Value) (h : xHp) (lk : xL) : Prop := match lk with
  | .inr (.inl c) => match xpop (sgP c) [] st with
    | some (As, r) => bif Nat.ble (xcats r) 8 then xcal lim c As h (fun v h' => k (pc + len) L (v ++ r) h') else False
    | none => False
  | .inl _ => xpi st fun n r => xpi r fun dp r => xpr r fun a r => xpi r fun sp r => xpr r fun a0 r => bif Nat.ble (xcats r) 8 then ∃ n0 f n1 f1 jn jd js, xat h a0 (xia n0 f) ∧ xat h a (xia n1 f1) ∧ n = nI jn ∧ dp = nI jd ∧ sp = nI js ∧ js + jn ≤ n0 ∧ jd + jn ≤ n1 ∧ n0 < 100000 ∧ n1 < 100000 ∧ k (pc + len) L r (xset h a (xia n1 (va_cpy f f1 js jd jn))) else False
  | .inr (.inr (.inr (.inr (0, _)))) => xpi st fun y r => xpi r fun x r => bif Nat.ble (xcats r) 8 then k (pc + len) L (.int (if x < y then y else x) :: r) h else False
  | .inr (.inr (.inr (.inr (1, _)))) => xpi st fun y r => xpi r fun x r => bif Nat.ble (xcats r) 8 then k (pc + len) L (.int (if y < x then y else x) :: r) h else False
  | .inr (.inr (.inr (.inr (2, _)))) => xpi st fun x r => bif Nat.ble (xcats r) 8 then k (pc + len) L (.int (if 0 ≤ x then x else 0 - x) :: r) h else False
  | _ => False
def xivt (lim : Nat × Nat) (k : xK) (pc len : Nat) (L : xLo) (st : List Value) (h : xHp) (lk : xL) : Prop := match lk with
  | .inr (.inl c) => match xpop (sgP c) [] st with
    | some (As, r) => xpr r fun a r => bif Nat.ble (xcats r) 8 then xcal lim c (.ref a :: As) h (fun v h' => k (pc + len) L (v ++ r) h') else False
    | none => False
  | _ => False
def xisp (lim : Nat × Nat) (k : xK) (pc len : Nat) (L : xLo) (st : List Value) (h : xHp) (lk : xL) : Prop := match lk with
  | .inr (.inl c) => match xpop (sgP c) [] st with
    | some (As, r) => xpr r fun a r => bif Nat.ble (xcats r) 8 then ∃ mc ms, ∃ P : Option Value → xHp → Prop, SpecA c (.ref a :: As) h mc ms P ∧ h.1 + mc ≤ lim.1 ∧ h.2.1 + ms ≤ lim.2 ∧ ∀ h', P none h' → k (pc + len) L r h' else False
    | none => False
  | .inl _ => xpr st fun a r => bif Nat.ble (xcats r) 8 then k (pc + len) L r h else False
  | _ => False

def xstep (lim : Nat × Nat) (g : xSig) (k : xK) (Q : Option Value → xHp → Prop) (pc : Nat) (L : xLo) (st : List Value) (h : xHp) (i : Instr) (len : Nat) (lk : xL) : Prop := match i with
  | .iconst _ => xlv lk fun v => k (pc + len) L (.int v :: st) h
  | .bipush _ => xlv lk fun v => k (pc + len) L (.int v :: st) h
  | .sipush _ => xlv lk fun v => k (pc + len) L (.int v :: st) h
  | .ldc _ => xlv lk fun v => k (pc + len) L (.int v :: st) h
  | .ldc_w _ => xlv lk fun v => k (pc + len) L (.int v :: st) h
  | .ldc2_w _ => xlw lk fun v => k (pc + len) L (.long v :: st) h
  | .iload i => xgi L i fun x => k (pc + len) L (.int x :: st) h
  | .iload_n n => xgi L n.val fun x => k (pc + len) L (.int x :: st) h
  | .lload i => xgl L i fun x => k (pc + len) L (.long x :: st) h
  | .lload_n n => xgl L n.val fun x => k (pc + len) L (.long x :: st) h
  | .aload i => xgq L i fun v => k (pc + len) L (v :: st) h
  | .aload_n n => xgq L n.val fun v => k (pc + len) L (v :: st) h
  | .istore i => xpi st fun x r => k (pc + len) (xput1 L i (.int x)) r h
  | .istore_n n => xpi st fun x r => k (pc + len) (xput1 L n.val (.int x)) r h
  | .lstore i => xpl st fun x r => k (pc + len) (xput2 L i (.long x)) r h
  | .lstore_n n => xpl st fun x r => k (pc + len) (xput2 L n.val (.long x)) r h
  | .astore i => xpr st fun x r => k (pc + len) (xput1 L i (.ref x)) r h
  | .astore_n n => xpr st fun x r => k (pc + len) (xput1 L n.val (.ref x)) r h
  | .iinc i _ => xlv lk fun v => xgi L i fun x => k (pc + len) (xput1 L i (.int (x + v))) st h
  | .iadd => xpi st fun y r => xpi r fun x r => k (pc + len) L (.int (x + y) :: r) h
  | .isub => xpi st fun y r => xpi r fun x r => k (pc + len) L (.int (x - y) :: r) h
  | .imul => xpi st fun y r => xpi r fun x r => k (pc + len) L (.int (x * y) :: r) h
  | .iand => xpi st fun y r => xpi r fun x r => k (pc + len) L (.int (x &&& y) :: r) h
  | .ior => xpi st fun y r => xpi r fun x r => k (pc + len) L (.int (x ||| y) :: r) h
  | .ixor => xpi st fun y r => xpi r fun x r => k (pc + len) L (.int (x ^^^ y) :: r) h
  | .ishl => xpi st fun y r => xpi r fun x r => k (pc + len) L (.int (x <<< (y &&& 31)) :: r) h
  | .ishr => xpi st fun y r => xpi r fun x r => k (pc + len) L (.int (x >>> (y &&& 31)) :: r) h
  | .iushr => xpi st fun y r => xpi r fun x r => k (pc + len) L (.int ((x.toUInt32 >>> (y.toUInt32 &&& Int32.toUInt32 31)).toInt32) :: r) h
  | .idiv => xpi st fun y r => xpi r fun x r => ¬ y = 0 ∧ k (pc + len) L (.int (x / y) :: r) h
  | .irem => xpi st fun y r => xpi r fun x r => ¬ y = 0 ∧ k (pc + len) L (.int (x - x / y * y) :: r) h
  | .ineg => xpi st fun x r => k (pc + len) L (.int (-x) :: r) h
  | .ladd => xpl st fun y r => xpl r fun x r => k (pc + len) L (.long (x + y) :: r) h
  | .lmul => xpl st fun y r => xpl r fun x r => k (pc + len) L (.long (x * y) :: r) h
  | .i2l => xpi st fun x r => k (pc + len) L (.long x.toInt64 :: r) h
  | .dup => xp1 st fun v r => bif Nat.beq v.category 1 then k (pc + len) L (v :: v :: r) h else False
  | .dup2 => xp1 st fun v r => xp1 r fun u r => bif Nat.beq v.category 1 && Nat.beq u.category 1 then k (pc + len) L (v :: u :: v :: u :: r) h else False
  | .pop => xp1 st fun v r => bif Nat.beq v.category 1 then k (pc + len) L r h else False
  | .ifCond .eq _ => xlf lk fun t _ => xpi st fun x r => xbr (x = nI 0) (k t L r h) (k (pc + len) L r h)
  | .ifCond .ne _ => xlf lk fun t _ => xpi st fun x r => xbr (x = nI 0) (k (pc + len) L r h) (k t L r h)
  | .ifCond .lt _ => xlf lk fun t _ => xpi st fun x r => xbr (x < nI 0) (k t L r h) (k (pc + len) L r h)
  | .ifCond .ge _ => xlf lk fun t _ => xpi st fun x r => xbr (nI 0 ≤ x) (k t L r h) (k (pc + len) L r h)
  | .ifCond .gt _ => xlf lk fun t _ => xpi st fun x r => xbr (nI 0 < x) (k t L r h) (k (pc + len) L r h)
  | .ifCond .le _ => xlf lk fun t _ => xpi st fun x r => xbr (x ≤ nI 0) (k t L r h) (k (pc + len) L r h)
  | .if_icmp .eq _ => xlf lk fun t _ => xpi st fun y r => xpi r fun x r => xbr (x = y) (k t L r h) (k (pc + len) L r h)
  | .if_icmp .ne _ => xlf lk fun t _ => xpi st fun y r => xpi r fun x r => xbr (x = y) (k (pc + len) L r h) (k t L r h)
  | .if_icmp .lt _ => xlf lk fun t _ => xpi st fun y r => xpi r fun x r => xbr (x < y) (k t L r h) (k (pc + len) L r h)
  | .if_icmp .ge _ => xlf lk fun t _ => xpi st fun y r => xpi r fun x r => xbr (y ≤ x) (k t L r h) (k (pc + len) L r h)
  | .if_icmp .gt _ => xlf lk fun t _ => xpi st fun y r => xpi r fun x r => xbr (y < x) (k t L r h) (k (pc + len) L r h)
  | .if_icmp .le _ => xlf lk fun t _ => xpi st fun y r => xpi r fun x r => xbr (x ≤ y) (k t L r h) (k (pc + len) L r h)
  | .goto _ => xlf lk fun t _ => k t L st h
  | .tableswitch _ _ _ _ => xtsw k L st h lk
  | .getfield _ => xlf lk fun ci n => xpr st fun a r => ∃ fs v, xat h a (xob ci fs) ∧ fs[n]? = some v ∧ k (pc + len) L (v :: r) h
  | .putfield _ => xlf lk fun ci n => xp1 st fun v r => xpr r fun a r => ∃ fs, xat h a (xob ci fs) ∧ n < fs.length ∧ bif xvk (xfty ci n) v then k (pc + len) L r (xset h a (xob ci (fs.set n v))) else False
  | .iaload => xpi st fun i r => xpr r fun a r => ∃ n f j, xat h a (xia n f) ∧ xix i j n ∧ k (pc + len) L (.int (f j) :: r) h
  | .iastore => xpi st fun x r => xpi r fun i r => xpr r fun a r => ∃ n f j, xat h a (xia n f) ∧ xix i j n ∧ k (pc + len) L r (xset h a (xia n (upd f j x)))
  | .aaload => xpi st fun i r => xpr r fun a r => ∃ n f j q, xat h a (xra n f) ∧ xix i j n ∧ f j = some q ∧ k (pc + len) L (.ref q :: r) h
  | .aastore => xpr st fun v r => xpi r fun i r => xpr r fun a r => ∃ n f j fs, xat h a (xra n f) ∧ xix i j n ∧ xat h v (xob xrc fs) ∧ k (pc + len) L r (xset h a (xra n (va_up f j (some v))))
  | .arraylength => xpr st fun a r => ∃ n f, xat h a (xia n f) ∧ k (pc + len) L (.int (nI n) :: r) h
  | .newarray _ => xpi st fun i r => ∃ j, i = nI j ∧ j < 100000 ∧ h.1 + 1 ≤ lim.1 ∧ h.2.1 + j ≤ lim.2 ∧ k (pc + len) L (.ref h.1 :: r) (xnew h j (xia j (fun _ => 0)))
  | .anewarray _ => xpi st fun i r => ∃ j, i = nI j ∧ j < 100000 ∧ h.1 + 1 ≤ lim.1 ∧ h.2.1 + j ≤ lim.2 ∧ k (pc + len) L (.ref h.1 :: r) (xnew h j (xra j (fun _ => none)))
  | .new _ => xlf lk fun ci n => h.1 + 1 ≤ lim.1 ∧ h.2.1 + n ≤ lim.2 ∧ k (pc + len) L (.ref h.1 :: st) (xnew h n (xob ci (xdef ci)))
  | .invokestatic _ => xist lim k pc len L st h lk
  | .invokevirtual _ => xivt lim k pc len L st h lk
  | .invokespecial _ => xisp lim k pc len L st h lk
  | .ireturn => xpi st fun x r => xnil r (xrt g x (Q (some (.int x)) h))
  | .lreturn => xpl st fun x r => xnil r (Q (some (.long x)) h)
  | .return_ => xnil st (Q none h)
  | _ => False
def xgo (r : Option xI) (f : Instr → Nat → xL → Prop) : Prop := match r with
  | none => False
  | some i => f i.1 i.2.1 i.2.2
def xnext (cut : List (Nat × List Nat)) (K w : xK) : xK := fun pc L st h => match xcut cut pc with
  | none => w pc L st h
  | some ks => K pc (xsel L ks) st h
theorem xgo_el {r : Option xI} {f : Instr → Nat → xL → Prop} (h : xgo r f) : ∃ i len lk, r = some (i, len, lk) ∧ f i len lk := by
  match r, h with
  | some (i, len, lk), h => exact ⟨i, len, lk, rfl, h⟩
theorem xnext_el {cut : List (Nat × List Nat)} {K w : xK} {pc : Nat} {L : xLo} {st : List Value} {h : xHp} (hh : xnext cut K w pc L st h) : w pc L st h ∨ ∃ ks, K pc (xsel L ks) st h := by
  unfold xnext at hh
  split at hh
  · exact Or.inl hh
  · exact Or.inr ⟨_, hh⟩
def wp (lim : Nat × Nat) (g : xSig) (cd : xCd) (cut : List (Nat × List Nat)) (K : xK) (Q : Option Value → xHp → Prop) : Nat → Nat → xLo → List Value → xHp → Prop
  | 0, _, _, _, _ => False
  | n + 1, pc, L, st, h => xgo (xfind cd pc) (xstep lim g (xnext cut K (wp lim g cd cut K Q n)) Q pc L st h)
/-! what is checked of the code, once -/
def xckv (lk : xL) (f : Int32 → Bool) : Bool := match lk with
  | .inr (.inr (.inl v)) => f v
  | _ => true
def xckt (lk : xL) (f : Nat → Bool) : Bool := match lk with
  | .inl (t, _) => f t
  | _ => true
def xswk (pc : Nat) (offs : List Int) : Int → List (Int32 × Nat) → Bool
  | _, [] => match offs with
    | [] => true
    | _ => false
  | lo, (v, t) :: r => match offs with
    | [] => false
    | o :: os => decide (v.toInt = lo) && decide ((pc : Int) + o = (t : Int)) && xswk pc os (lo + 1) r
def xck (g : xSig) (e : Nat × xI) : Bool := match e.2.1 with
  | .iconst n => xckv e.2.2.2 (fun v => decide (Int32.ofInt n = v)) && Nat.beq e.2.2.1 1
  | .bipush n => xckv e.2.2.2 (fun v => decide ((Int8.ofInt n).toInt32 = v)) && Nat.beq e.2.2.1 2
  | .sipush n => xckv e.2.2.2 (fun v => decide ((Int16.ofInt n).toInt32 = v)) && Nat.beq e.2.2.1 3
  | .ldc _ => Nat.beq e.2.2.1 2
  | .ldc_w _ | .ldc2_w _ => Nat.beq e.2.2.1 3
  | .iload _ | .lload _ | .aload _ => Nat.beq e.2.2.1 2
  | .istore i | .astore i => Nat.blt i (sgL g) && Nat.beq e.2.2.1 2
  | .lstore i => Nat.blt (i + 1) (sgL g) && Nat.beq e.2.2.1 2
  | .istore_n n | .astore_n n => Nat.blt n.val (sgL g) && Nat.beq e.2.2.1 1
  | .lstore_n n => Nat.blt (n.val + 1) (sgL g) && Nat.beq e.2.2.1 1
  | .iinc i n => xckv e.2.2.2 (fun v => decide (Int32.ofInt n = v)) && Nat.blt i (sgL g) && Nat.beq e.2.2.1 3
  | .ifCond _ off => xckt e.2.2.2 (fun t => decide ((e.1 : Int) + off = (t : Int))) && Nat.beq e.2.2.1 3
  | .if_icmp _ off => xckt e.2.2.2 (fun t => decide ((e.1 : Int) + off = (t : Int))) && Nat.beq e.2.2.1 3
  | .goto off => xckt e.2.2.2 (fun t => decide ((e.1 : Int) + off = (t : Int))) && Nat.beq e.2.2.1 3
  | .tableswitch d lo hi offs => match e.2.2.2 with
    | .inr (.inr (.inr (.inr (t, ps)))) => decide ((e.1 : Int) + d = (t : Int)) && xswk e.1 offs.toList lo ps && decide (hi = lo + ps.length - 1)
    | _ => true
  | .lreturn => decide (sgR g = some .long) && Nat.beq e.2.2.1 1
  | .return_ => decide (sgR g = none) && Nat.beq e.2.2.1 1
  | .getfield _ | .putfield _ | .new _ | .anewarray _ => Nat.beq e.2.2.1 3
  | .newarray _ => Nat.beq e.2.2.1 2
  | .invokestatic _ => (match e.2.2.2 with
    | .inr (.inl c) => Nat.ble (sgF c + 1) (sgF g) && Nat.ble (8 + (sgL c + 11) + sgO c) (sgO g)
    | _ => Nat.ble 1 (sgF g) && Nat.ble (8 + xcpw) (sgO g)) && Nat.beq e.2.2.1 3
  | .invokevirtual _ => (match e.2.2.2 with
    | .inr (.inl c) => Nat.ble (sgF c + 1) (sgF g) && Nat.ble (8 + (sgL c + 11) + sgO c) (sgO g)
    | _ => true) && Nat.beq e.2.2.1 3
  | .invokespecial _ => (match e.2.2.2 with
    | .inr (.inl c) => Nat.ble (sgF c + 1) (sgF g) && Nat.ble (8 + (sgL c + 11) + sgO c) (sgO g)
    | _ => Nat.ble 1 (sgF g) && Nat.ble 20 (sgO g)) && Nat.beq e.2.2.1 3
  | _ => Nat.beq e.2.2.1 1
/-! what the tables must say of an instruction that links -/
def xfl (own : String) (idx ci k : Nat) : Prop := ∃ r, xcl[ci]? = some r ∧ k < r.2.2 ∧ Cond.fieldLink own idx (r.2.1 k).1 (r.2.1 k).2.1 (r.2.1 k).2.2.1 ∈ lw_g
def xmc (c : xSig) : Prop := Cond.initialized (sgN c).cls ∈ lw_g ∧ Cond.code (sgN c) (sgB c) (sgL c) (sgR c) ∈ lw_g ∧ (sgN c).cls ≠ "java/lang/invoke/MethodHandle" ∧ (sgN c).cls ≠ "java/lang/invoke/VarHandle" ∧ (parseMethodDescriptor (sgN c).desc).map (fun d => d.parameters.length) = some (sgP c)
def xms (c : xSig) : Prop := xmc c ∧ Cond.static (sgN c) ∈ lw_g
def xmv (c : xSig) : Prop := xmc c ∧ Cond.instanceMethod (sgN c) ∈ lw_g ∧ Cond.selects (sgN c).cls (sgN c) (sgN c) ∈ lw_g ∧ ∃ ci r, sgV c = some ci ∧ xcl[ci]? = some r ∧ r.1 = (sgN c).cls
def xmi (c : xSig) : Prop := xmc c ∧ Cond.instanceMethod (sgN c) ∈ lw_g ∧ (sgN c).name = "<init>" ∧ sgR c = none
def xfp (g : xSig) (ci k : Nat) : Prop := ∀ r, xcl[ci]? = some r → (r.2.1 k).2.2.2 = true → (sgN g).name = "<init>" ∧ r.1 = (sgN g).cls
def xlk (g : xSig) (e : Nat × xI) : Prop := match e.2.1, e.2.2.2 with
  | .getfield idx, .inl (ci, k) => xfl (sgN g).cls idx ci k
  | .putfield idx, .inl (ci, k) => xfl (sgN g).cls idx ci k ∧ xfp g ci k
  | .new idx, .inl (ci, n) => ∃ r, xcl[ci]? = some r ∧ r.2.2 = n ∧ Cond.classLink (sgN g).cls idx r.1 ∈ lw_g ∧ Cond.instantiable r.1 r.2.2 ∈ lw_g ∧ Cond.initialized r.1 ∈ lw_g
  | .invokestatic idx, .inr (.inl c) => Cond.methodLink (sgN g).cls idx (sgN c) ∈ lw_g ∧ xms c
  | .invokestatic idx, .inl _ => Cond.methodLink (sgN g).cls idx arraycopyName ∈ lw_g ∧ Cond.native arraycopyName ∈ lw_g ∧ Cond.static arraycopyName ∈ lw_g ∧ Cond.initialized "java/lang/System" ∈ lw_g
  | .invokestatic idx, .inr (.inr (.inr (.inr (0, _)))) => Cond.methodLink (sgN g).cls idx Lib.Math.max.name ∈ lw_g ∧ Cond.static Lib.Math.max.name ∈ lw_g ∧ Cond.initialized "java/lang/Math" ∈ lw_g ∧ Cond.code Lib.Math.max.name Lib.Math.max.code 2 (some .int) ∈ lw_g
  | .invokestatic idx, .inr (.inr (.inr (.inr (1, _)))) => Cond.methodLink (sgN g).cls idx Lib.Math.min.name ∈ lw_g ∧ Cond.static Lib.Math.min.name ∈ lw_g ∧ Cond.initialized "java/lang/Math" ∈ lw_g ∧ Cond.code Lib.Math.min.name Lib.Math.min.code 2 (some .int) ∈ lw_g
  | .invokestatic idx, .inr (.inr (.inr (.inr (2, _)))) => Cond.methodLink (sgN g).cls idx Lib.Math.abs.name ∈ lw_g ∧ Cond.static Lib.Math.abs.name ∈ lw_g ∧ Cond.initialized "java/lang/Math" ∈ lw_g ∧ Cond.code Lib.Math.abs.name Lib.Math.abs.code 1 (some .int) ∈ lw_g
  | .invokevirtual idx, .inr (.inl c) => Cond.methodLink (sgN g).cls idx (sgN c) ∈ lw_g ∧ xmv c
  | .invokespecial idx, .inr (.inl c) => Cond.methodLink (sgN g).cls idx (sgN c) ∈ lw_g ∧ xmi c
  | .invokespecial idx, .inl _ => Cond.methodLink (sgN g).cls idx Lib.objectInit ∈ lw_g ∧ Cond.instanceMethod Lib.objectInit ∈ lw_g ∧ Cond.code Lib.objectInit ⟨#[0xb1]⟩ 1 none ∈ lw_g
  | .newarray .int, _ => Cond.arrayClass .int ∈ lw_g
  | .newarray _, _ => False
  | .anewarray idx, _ => Cond.classLink (sgN g).cls idx xrn ∈ lw_g
  | .ldc idx, .inr (.inr (.inl v)) => Cond.constant (sgN g).cls idx v ∈ lw_g
  | .ldc_w idx, .inr (.inr (.inl v)) => Cond.constant (sgN g).cls idx v ∈ lw_g
  | .ldc2_w idx, .inr (.inr (.inr (.inl v))) => Cond.constantLong (sgN g).cls idx v ∈ lw_g
  | _, _ => True
def xOK (g : xSig) (cd : xCd) : Prop := (∀ e ∈ cd, decode (sgB g) e.1 = .ok (e.2.1, e.2.2.1)) ∧ cd.all (xck g) = true ∧ ∀ e ∈ cd, xlk g e
end
section
/-! what the tables say of the classes whose objects there are -/
def xclP (ci : Nat) (r : vw_C) : Prop := (∀ k, k < r.2.2 → parseFieldDescriptor (r.2.1 k).2.2.1 = some (xfty ci k)) ∧ (∀ a, a < r.2.2 → ∀ b, b < r.2.2 → a ≠ b → (r.2.1 a).2.1 ≠ (r.2.1 b).2.1) ∧ (∀ k, k < r.2.2 → (r.2.1 k).1 = r.1) ∧ (∀ k, k < r.2.2 → defaultValue (xfty ci k) = vp_V (xdef ci) k) ∧ (∀ w ∈ u_ws r.1 r.2.1 r.2.2, w ∈ lw_g) ∧ (∀ b, (xdef ci).map (xcv b) = xdef ci)
set_option maxRecDepth 100000 in
theorem xlay_0_0 : u_lay xR0 xT0 0 ∈ lw_g := lw_gm 210 rfl rfl
set_option maxRecDepth 100000 in
theorem xlay_0_1 : u_lay xR0 xT0 1 ∈ lw_g := lw_gm 212 rfl rfl
set_option maxRecDepth 100000 in
theorem xlay_0_2 : u_lay xR0 xT0 2 ∈ lw_g := lw_gm 214 rfl rfl
set_option maxRecDepth 100000 in
theorem xlay_0_3 : u_lay xR0 xT0 3 ∈ lw_g := lw_gm 216 rfl rfl
theorem xcl_0 : xclP 0 (xR0, xT0, 4) := by
  refine ⟨by decide +kernel, by decide +kernel, by decide +kernel, by decide +kernel, fun w hw => ?_, fun b => rfl⟩
  obtain ⟨k, hk, rfl⟩ := List.mem_map.mp hw
  have hk := List.mem_range.mp hk
  match k, hk with
  | 0, _ => exact xlay_0_0
  | 1, _ => exact xlay_0_1
  | 2, _ => exact xlay_0_2
  | 3, _ => exact xlay_0_3
  | z + 4, h => exact absurd h (Nat.not_lt.mpr (Nat.le_add_left 4 z))
set_option maxRecDepth 100000 in
theorem xlay_1_0 : u_lay xR1 xT1 0 ∈ lw_g := lw_gm 125 rfl rfl
set_option maxRecDepth 100000 in
theorem xlay_1_1 : u_lay xR1 xT1 1 ∈ lw_g := lw_gm 127 rfl rfl
set_option maxRecDepth 100000 in
theorem xlay_1_2 : u_lay xR1 xT1 2 ∈ lw_g := lw_gm 129 rfl rfl
theorem xcl_1 : xclP 1 (xR1, xT1, 3) := by
  refine ⟨by decide +kernel, by decide +kernel, by decide +kernel, by decide +kernel, fun w hw => ?_, fun b => rfl⟩
  obtain ⟨k, hk, rfl⟩ := List.mem_map.mp hw
  have hk := List.mem_range.mp hk
  match k, hk with
  | 0, _ => exact xlay_1_0
  | 1, _ => exact xlay_1_1
  | 2, _ => exact xlay_1_2
  | z + 3, h => exact absurd h (Nat.not_lt.mpr (Nat.le_add_left 3 z))
set_option maxRecDepth 100000 in
theorem xlay_2_0 : u_lay xR2 xT2 0 ∈ lw_g := lw_gm 62 rfl rfl
set_option maxRecDepth 100000 in
theorem xlay_2_1 : u_lay xR2 xT2 1 ∈ lw_g := lw_gm 64 rfl rfl
set_option maxRecDepth 100000 in
theorem xlay_2_2 : u_lay xR2 xT2 2 ∈ lw_g := lw_gm 66 rfl rfl
set_option maxRecDepth 100000 in
theorem xlay_2_3 : u_lay xR2 xT2 3 ∈ lw_g := lw_gm 68 rfl rfl
set_option maxRecDepth 100000 in
theorem xlay_2_4 : u_lay xR2 xT2 4 ∈ lw_g := lw_gm 70 rfl rfl
set_option maxRecDepth 100000 in
theorem xlay_2_5 : u_lay xR2 xT2 5 ∈ lw_g := lw_gm 72 rfl rfl
theorem xcl_2 : xclP 2 (xR2, xT2, 6) := by
  refine ⟨by decide +kernel, by decide +kernel, by decide +kernel, by decide +kernel, fun w hw => ?_, fun b => rfl⟩
  obtain ⟨k, hk, rfl⟩ := List.mem_map.mp hw
  have hk := List.mem_range.mp hk
  match k, hk with
  | 0, _ => exact xlay_2_0
  | 1, _ => exact xlay_2_1
  | 2, _ => exact xlay_2_2
  | 3, _ => exact xlay_2_3
  | 4, _ => exact xlay_2_4
  | 5, _ => exact xlay_2_5
  | z + 6, h => exact absurd h (Nat.not_lt.mpr (Nat.le_add_left 6 z))
set_option maxRecDepth 100000 in
theorem xlay_3_0 : u_lay xR3 xT3 0 ∈ lw_g := lw_gm 157 rfl rfl
set_option maxRecDepth 100000 in
theorem xlay_3_1 : u_lay xR3 xT3 1 ∈ lw_g := lw_gm 159 rfl rfl
set_option maxRecDepth 100000 in
theorem xlay_3_2 : u_lay xR3 xT3 2 ∈ lw_g := lw_gm 161 rfl rfl
theorem xcl_3 : xclP 3 (xR3, xT3, 3) := by
  refine ⟨by decide +kernel, by decide +kernel, by decide +kernel, by decide +kernel, fun w hw => ?_, fun b => rfl⟩
  obtain ⟨k, hk, rfl⟩ := List.mem_map.mp hw
  have hk := List.mem_range.mp hk
  match k, hk with
  | 0, _ => exact xlay_3_0
  | 1, _ => exact xlay_3_1
  | 2, _ => exact xlay_3_2
  | z + 3, h => exact absurd h (Nat.not_lt.mpr (Nat.le_add_left 3 z))
set_option maxRecDepth 100000 in
theorem xlay_4_0 : u_lay xR4 xT4 0 ∈ lw_g := lw_gm 187 rfl rfl
set_option maxRecDepth 100000 in
theorem xlay_4_1 : u_lay xR4 xT4 1 ∈ lw_g := lw_gm 189 rfl rfl
set_option maxRecDepth 100000 in
theorem xlay_4_2 : u_lay xR4 xT4 2 ∈ lw_g := lw_gm 191 rfl rfl
set_option maxRecDepth 100000 in
theorem xlay_4_3 : u_lay xR4 xT4 3 ∈ lw_g := lw_gm 193 rfl rfl
set_option maxRecDepth 100000 in
theorem xlay_4_4 : u_lay xR4 xT4 4 ∈ lw_g := lw_gm 195 rfl rfl
set_option maxRecDepth 100000 in
theorem xlay_4_5 : u_lay xR4 xT4 5 ∈ lw_g := lw_gm 197 rfl rfl
theorem xcl_4 : xclP 4 (xR4, xT4, 6) := by
  refine ⟨by decide +kernel, by decide +kernel, by decide +kernel, by decide +kernel, fun w hw => ?_, fun b => rfl⟩
  obtain ⟨k, hk, rfl⟩ := List.mem_map.mp hw
  have hk := List.mem_range.mp hk
  match k, hk with
  | 0, _ => exact xlay_4_0
  | 1, _ => exact xlay_4_1
  | 2, _ => exact xlay_4_2
  | 3, _ => exact xlay_4_3
  | 4, _ => exact xlay_4_4
  | 5, _ => exact xlay_4_5
  | z + 6, h => exact absurd h (Nat.not_lt.mpr (Nat.le_add_left 6 z))
set_option maxRecDepth 100000 in
theorem xlay_5_0 : u_lay xR5 xT5 0 ∈ lw_g := lw_gm 103 rfl rfl
set_option maxRecDepth 100000 in
theorem xlay_5_1 : u_lay xR5 xT5 1 ∈ lw_g := lw_gm 105 rfl rfl
set_option maxRecDepth 100000 in
theorem xlay_5_2 : u_lay xR5 xT5 2 ∈ lw_g := lw_gm 107 rfl rfl
set_option maxRecDepth 100000 in
theorem xlay_5_3 : u_lay xR5 xT5 3 ∈ lw_g := lw_gm 109 rfl rfl
theorem xcl_5 : xclP 5 (xR5, xT5, 4) := by
  refine ⟨by decide +kernel, by decide +kernel, by decide +kernel, by decide +kernel, fun w hw => ?_, fun b => rfl⟩
  obtain ⟨k, hk, rfl⟩ := List.mem_map.mp hw
  have hk := List.mem_range.mp hk
  match k, hk with
  | 0, _ => exact xlay_5_0
  | 1, _ => exact xlay_5_1
  | 2, _ => exact xlay_5_2
  | 3, _ => exact xlay_5_3
  | z + 4, h => exact absurd h (Nat.not_lt.mpr (Nat.le_add_left 4 z))
set_option maxRecDepth 100000 in
theorem xlay_6_0 : u_lay xR6 xT6 0 ∈ lw_g := lw_gm 141 rfl rfl
set_option maxRecDepth 100000 in
theorem xlay_6_1 : u_lay xR6 xT6 1 ∈ lw_g := lw_gm 143 rfl rfl
theorem xcl_6 : xclP 6 (xR6, xT6, 2) := by
  refine ⟨by decide +kernel, by decide +kernel, by decide +kernel, by decide +kernel, fun w hw => ?_, fun b => rfl⟩
  obtain ⟨k, hk, rfl⟩ := List.mem_map.mp hw
  have hk := List.mem_range.mp hk
  match k, hk with
  | 0, _ => exact xlay_6_0
  | 1, _ => exact xlay_6_1
  | z + 2, h => exact absurd h (Nat.not_lt.mpr (Nat.le_add_left 2 z))
set_option maxRecDepth 100000 in
theorem xlay_7_0 : u_lay xR7 xT7 0 ∈ lw_g := lw_gm 171 rfl rfl
theorem xcl_7 : xclP 7 (xR7, xT7, 1) := by
  refine ⟨by decide +kernel, by decide +kernel, by decide +kernel, by decide +kernel, fun w hw => ?_, fun b => rfl⟩
  obtain ⟨k, hk, rfl⟩ := List.mem_map.mp hw
  have hk := List.mem_range.mp hk
  match k, hk with
  | 0, _ => exact xlay_7_0
  | z + 1, h => exact absurd h (Nat.not_lt.mpr (Nat.le_add_left 1 z))
set_option maxRecDepth 100000 in
theorem xlay_8_0 : u_lay xR8 xT8 0 ∈ lw_g := lw_gm 227 rfl rfl
set_option maxRecDepth 100000 in
theorem xlay_8_1 : u_lay xR8 xT8 1 ∈ lw_g := lw_gm 229 rfl rfl
set_option maxRecDepth 100000 in
theorem xlay_8_2 : u_lay xR8 xT8 2 ∈ lw_g := lw_gm 231 rfl rfl
set_option maxRecDepth 100000 in
theorem xlay_8_3 : u_lay xR8 xT8 3 ∈ lw_g := lw_gm 233 rfl rfl
set_option maxRecDepth 100000 in
theorem xlay_8_4 : u_lay xR8 xT8 4 ∈ lw_g := lw_gm 235 rfl rfl
set_option maxRecDepth 100000 in
theorem xlay_8_5 : u_lay xR8 xT8 5 ∈ lw_g := lw_gm 237 rfl rfl
set_option maxRecDepth 100000 in
theorem xlay_8_6 : u_lay xR8 xT8 6 ∈ lw_g := lw_gm 239 rfl rfl
set_option maxRecDepth 100000 in
theorem xlay_8_7 : u_lay xR8 xT8 7 ∈ lw_g := lw_gm 241 rfl rfl
theorem xcl_8 : xclP 8 (xR8, xT8, 8) := by
  refine ⟨by decide +kernel, by decide +kernel, by decide +kernel, by decide +kernel, fun w hw => ?_, fun b => rfl⟩
  obtain ⟨k, hk, rfl⟩ := List.mem_map.mp hw
  have hk := List.mem_range.mp hk
  match k, hk with
  | 0, _ => exact xlay_8_0
  | 1, _ => exact xlay_8_1
  | 2, _ => exact xlay_8_2
  | 3, _ => exact xlay_8_3
  | 4, _ => exact xlay_8_4
  | 5, _ => exact xlay_8_5
  | 6, _ => exact xlay_8_6
  | 7, _ => exact xlay_8_7
  | z + 8, h => exact absurd h (Nat.not_lt.mpr (Nat.le_add_left 8 z))
theorem xcl_ok (ci : Nat) (r : vw_C) (h : xcl[ci]? = some r) : xclP ci r := by
  match ci, h with
  | 0, h => cases h; exact xcl_0
  | 1, h => cases h; exact xcl_1
  | 2, h => cases h; exact xcl_2
  | 3, h => cases h; exact xcl_3
  | 4, h => cases h; exact xcl_4
  | 5, h => cases h; exact xcl_5
  | 6, h => cases h; exact xcl_6
  | 7, h => cases h; exact xcl_7
  | 8, h => cases h; exact xcl_8
  | n + 9, h => cases h
end
section
/-! SOUNDNESS OF A STEP over the kit's W -/
section XS
variable {lim : Nat × Nat} {g : xSig} {Q : Option Value → xHp → Prop} {pc : Nat} {L : xLo} {st : List Value} {h : xHp} {len : Nat} {lk : xL} {k : xK}
/-- an instruction that leaves the heap as it is -/
theorem xa_of {pc' : Nat} {L' : xLo} {st' : List Value}
    (step : ∀ (p : Program) (l : Launch) (e : Env) (R : Room) (s : State) (m : MethodId) (args : Array Value) (below : List Frame) (meth : Method) (c : Code) (H : Heap) (locs : List Loc) (cells slots : Nat) (Qw : State → Prop) (ls : Array Slot) (b : xB),
      xFix p s m args meth c g → lv_has ls (sgL g) (xcL b L) → (∀ ls' : Array Slot, lv_has ls' (sgL g) (xcL b L') → W p l e R s m args below meth c H locs cells slots Qw (F0 m pc' ls' (st'.map (xcv b)))) → W p l e R s m args below meth c H locs cells slots Qw (F0 m pc ls (st.map (xcv b))))
    (kk : xAt lim g Q pc' L' st' h) : xAt lim g Q pc L st h :=
  fun p l e s m args below meth c D cI cR b N0 S0 H locs ls X C hl => step p l e _ s m args below meth c H locs _ _ _ ls b X hl (fun ls' hl' => kk p l e s m args below meth c D cI cR b N0 S0 H locs ls' X C hl')
theorem xlv_el {f : Int32 → Prop} (h : xlv lk f) : ∃ v, lk = .inr (.inr (.inl v)) ∧ f v := by
  unfold xlv at h
  split at h
  · exact ⟨_, rfl, h⟩
  · exact h.elim
theorem xlw_el {f : Int64 → Prop} (h : xlw lk f) : ∃ v, lk = .inr (.inr (.inr (.inl v))) ∧ f v := by
  unfold xlw at h
  split at h
  · exact ⟨_, rfl, h⟩
  · exact h.elim
theorem xlf_el {f : Nat → Nat → Prop} (h : xlf lk f) : ∃ a b, lk = .inl (a, b) ∧ f a b := by
  unfold xlf at h
  split at h
  · exact ⟨_, _, rfl, h⟩
  · exact h.elim
theorem bif_el {b : Bool} {p : Prop} (h : bif b then p else False) : b = true ∧ p := by
  cases b with
  | true => exact ⟨rfl, h⟩
  | false => exact h.elim
theorem and_el {a b : Bool} (h : (a && b) = true) : a = true ∧ b = true := by
  cases a <;> cases b <;> first | exact ⟨rfl, rfl⟩ | cases h

theorem xs_iconst (hk : ∀ pc L st h, k pc L st h → xAt lim g Q pc L st h) {n : Int} (hd : decode (sgB g) pc = .ok (.iconst n, len)) (hc : xck g (pc, .iconst n, len, lk) = true) (hs : xstep lim g k Q pc L st h (.iconst n) len lk) : xAt lim g Q pc L st h := by
  obtain ⟨v, rfl, hs⟩ := xlv_el hs
  obtain ⟨h1, h2⟩ := and_el hc
  have h2 := nb_eq h2
  subst h2
  exact xa_of (fun p l e R s m args below meth c H locs cells slots Qw ls b X hl kk => lv_iconst X.1 X.2.1 hd (of_decide_eq_true h1) (kk ls hl)) (hk _ _ _ _ hs)
theorem xs_bipush (hk : ∀ pc L st h, k pc L st h → xAt lim g Q pc L st h) {n : Int} (hd : decode (sgB g) pc = .ok (.bipush n, len)) (hc : xck g (pc, .bipush n, len, lk) = true) (hs : xstep lim g k Q pc L st h (.bipush n) len lk) : xAt lim g Q pc L st h := by
  obtain ⟨v, rfl, hs⟩ := xlv_el hs
  obtain ⟨h1, h2⟩ := and_el hc
  have h2 := nb_eq h2
  subst h2
  exact xa_of (fun p l e R s m args below meth c H locs cells slots Qw ls b X hl kk => lv_bipush X.1 X.2.1 hd (of_decide_eq_true h1) (kk ls hl)) (hk _ _ _ _ hs)
theorem xs_sipush (hk : ∀ pc L st h, k pc L st h → xAt lim g Q pc L st h) {n : Int} (hd : decode (sgB g) pc = .ok (.sipush n, len)) (hc : xck g (pc, .sipush n, len, lk) = true) (hs : xstep lim g k Q pc L st h (.sipush n) len lk) : xAt lim g Q pc L st h := by
  obtain ⟨v, rfl, hs⟩ := xlv_el hs
  obtain ⟨h1, h2⟩ := and_el hc
  have h2 := nb_eq h2
  subst h2
  exact xa_of (fun p l e R s m args below meth c H locs cells slots Qw ls b X hl kk => lv_sipush X.1 X.2.1 hd (of_decide_eq_true h1) (kk ls hl)) (hk _ _ _ _ hs)
theorem xs_ldc (hk : ∀ pc L st h, k pc L st h → xAt lim g Q pc L st h) {n : Nat} (hd : decode (sgB g) pc = .ok (.ldc n, len)) (hc : xck g (pc, .ldc n, len, lk) = true) (hq : xlk g (pc, .ldc n, len, lk)) (hs : xstep lim g k Q pc L st h (.ldc n) len lk) : xAt lim g Q pc L st h := by
  obtain ⟨v, rfl, hs⟩ := xlv_el hs
  have h2 := nb_eq hc
  subst h2
  exact xa_of (fun p l e R s m args below meth c H locs cells slots Qw ls b X hl kk => lv_ldc X.1 X.2.1 X.2.2.2.2.2.1 (X.2.2.2.2.2.2.2 _ (List.mem_cons_of_mem _ hq)) hd (kk ls hl)) (hk _ _ _ _ hs)
theorem xs_ldc_w (hk : ∀ pc L st h, k pc L st h → xAt lim g Q pc L st h) {n : Nat} (hd : decode (sgB g) pc = .ok (.ldc_w n, len)) (hc : xck g (pc, .ldc_w n, len, lk) = true) (hq : xlk g (pc, .ldc_w n, len, lk)) (hs : xstep lim g k Q pc L st h (.ldc_w n) len lk) : xAt lim g Q pc L st h := by
  obtain ⟨v, rfl, hs⟩ := xlv_el hs
  have h2 := nb_eq hc
  subst h2
  exact xa_of (fun p l e R s m args below meth c H locs cells slots Qw ls b X hl kk => lv_ldcw X.1 X.2.1 X.2.2.2.2.2.1 (X.2.2.2.2.2.2.2 _ (List.mem_cons_of_mem _ hq)) hd (kk ls hl)) (hk _ _ _ _ hs)
theorem xs_ldc2_w (hk : ∀ pc L st h, k pc L st h → xAt lim g Q pc L st h) {n : Nat} (hd : decode (sgB g) pc = .ok (.ldc2_w n, len)) (hc : xck g (pc, .ldc2_w n, len, lk) = true) (hq : xlk g (pc, .ldc2_w n, len, lk)) (hs : xstep lim g k Q pc L st h (.ldc2_w n) len lk) : xAt lim g Q pc L st h := by
  obtain ⟨v, rfl, hs⟩ := xlw_el hs
  have h2 := nb_eq hc
  subst h2
  exact xa_of (fun p l e R s m args below meth c H locs cells slots Qw ls b X hl kk => lv_ldc2 X.1 X.2.1 X.2.2.2.2.2.1 (X.2.2.2.2.2.2.2 _ (List.mem_cons_of_mem _ hq)) hd (kk ls hl)) (hk _ _ _ _ hs)
theorem xs_iload (hk : ∀ pc L st h, k pc L st h → xAt lim g Q pc L st h) {i : Nat} (hd : decode (sgB g) pc = .ok (.iload i, len)) (hc : xck g (pc, .iload i, len, lk) = true) (hs : xstep lim g k Q pc L st h (.iload i) len lk) : xAt lim g Q pc L st h := by
  obtain ⟨x, hx, hs⟩ := xgi_el hs
  have h2 := nb_eq hc
  subst h2
  exact xa_of (fun p l e R s m args below meth c H locs cells slots Qw ls b X hl kk => lv_iload X.1 X.2.1 hd (xl_get hl hx) (kk ls hl)) (hk _ _ _ _ hs)
theorem xs_iload_n (hk : ∀ pc L st h, k pc L st h → xAt lim g Q pc L st h) {i : Fin 4} (hd : decode (sgB g) pc = .ok (.iload_n i, len)) (hc : xck g (pc, .iload_n i, len, lk) = true) (hs : xstep lim g k Q pc L st h (.iload_n i) len lk) : xAt lim g Q pc L st h := by
  obtain ⟨x, hx, hs⟩ := xgi_el hs
  have h2 := nb_eq hc
  subst h2
  exact xa_of (fun p l e R s m args below meth c H locs cells slots Qw ls b X hl kk => lv_iload_n X.1 X.2.1 hd rfl (xl_get hl hx) (kk ls hl)) (hk _ _ _ _ hs)
theorem xs_lload (hk : ∀ pc L st h, k pc L st h → xAt lim g Q pc L st h) {i : Nat} (hd : decode (sgB g) pc = .ok (.lload i, len)) (hc : xck g (pc, .lload i, len, lk) = true) (hs : xstep lim g k Q pc L st h (.lload i) len lk) : xAt lim g Q pc L st h := by
  obtain ⟨x, hx, hs⟩ := xgl_el hs
  have h2 := nb_eq hc
  subst h2
  exact xa_of (fun p l e R s m args below meth c H locs cells slots Qw ls b X hl kk => lv_lload X.1 X.2.1 hd (xl_get hl hx) (kk ls hl)) (hk _ _ _ _ hs)
theorem xs_lload_n (hk : ∀ pc L st h, k pc L st h → xAt lim g Q pc L st h) {i : Fin 4} (hd : decode (sgB g) pc = .ok (.lload_n i, len)) (hc : xck g (pc, .lload_n i, len, lk) = true) (hs : xstep lim g k Q pc L st h (.lload_n i) len lk) : xAt lim g Q pc L st h := by
  obtain ⟨x, hx, hs⟩ := xgl_el hs
  have h2 := nb_eq hc
  subst h2
  exact xa_of (fun p l e R s m args below meth c H locs cells slots Qw ls b X hl kk => lv_lload_n X.1 X.2.1 hd rfl (xl_get hl hx) (kk ls hl)) (hk _ _ _ _ hs)
theorem xs_aload (hk : ∀ pc L st h, k pc L st h → xAt lim g Q pc L st h) {i : Nat} (hd : decode (sgB g) pc = .ok (.aload i, len)) (hc : xck g (pc, .aload i, len, lk) = true) (hs : xstep lim g k Q pc L st h (.aload i) len lk) : xAt lim g Q pc L st h := by
  replace hs : xgq L i (fun v => k (pc + len) L (v :: st) h) := hs
  have hs0 := hs
  obtain ⟨v, -, hx, -, hs⟩ := xgq_el (b := (0, 0)) hs
  have h2 := nb_eq hc
  subst h2
  exact xa_of (fun p l e R s m args below meth c H locs cells slots Qw ls b X hl kk => by
    obtain ⟨v', y, hx', hy, -⟩ := xgq_el (b := b) hs0
    rw [hx] at hx'
    cases hx'
    have e1 := xl_get hl hx
    have kk1 := kk ls hl
    rw [List.map_cons, hy] at kk1
    rw [hy] at e1
    exact lv_aload X.1 X.2.1 hd e1 kk1) (hk _ _ _ _ hs)
theorem xs_aload_n (hk : ∀ pc L st h, k pc L st h → xAt lim g Q pc L st h) {i : Fin 4} (hd : decode (sgB g) pc = .ok (.aload_n i, len)) (hc : xck g (pc, .aload_n i, len, lk) = true) (hs : xstep lim g k Q pc L st h (.aload_n i) len lk) : xAt lim g Q pc L st h := by
  replace hs : xgq L i.val (fun v => k (pc + len) L (v :: st) h) := hs
  have hs0 := hs
  obtain ⟨v, -, hx, -, hs⟩ := xgq_el (b := (0, 0)) hs
  have h2 := nb_eq hc
  subst h2
  exact xa_of (fun p l e R s m args below meth c H locs cells slots Qw ls b X hl kk => by
    obtain ⟨v', y, hx', hy, -⟩ := xgq_el (b := b) hs0
    rw [hx] at hx'
    cases hx'
    have e1 := xl_get hl hx
    have kk1 := kk ls hl
    rw [List.map_cons, hy] at kk1
    rw [hy] at e1
    exact lv_aload_n X.1 X.2.1 hd rfl e1 kk1) (hk _ _ _ _ hs)
theorem xs_istore (hk : ∀ pc L st h, k pc L st h → xAt lim g Q pc L st h) {i : Nat} (hd : decode (sgB g) pc = .ok (.istore i, len)) (hc : xck g (pc, .istore i, len, lk) = true) (hs : xstep lim g k Q pc L st h (.istore i) len lk) : xAt lim g Q pc L st h := by
  obtain ⟨x, r, rfl, hs⟩ := xpi_el hs
  obtain ⟨h1, h2⟩ := and_el hc
  have h2 := nb_eq h2
  subst h2
  exact xa_of (fun p l e R s m args below meth c H locs cells slots Qw ls b X hl kk => lv_istore X.1 X.2.1 hd hl (Nat.le_of_ble_eq_true h1) rfl (fun ls' h' => kk ls' (xl_of h' xl_put1))) (hk _ _ _ _ hs)
theorem xs_istore_n (hk : ∀ pc L st h, k pc L st h → xAt lim g Q pc L st h) {i : Fin 4} (hd : decode (sgB g) pc = .ok (.istore_n i, len)) (hc : xck g (pc, .istore_n i, len, lk) = true) (hs : xstep lim g k Q pc L st h (.istore_n i) len lk) : xAt lim g Q pc L st h := by
  obtain ⟨x, r, rfl, hs⟩ := xpi_el hs
  obtain ⟨h1, h2⟩ := and_el hc
  have h2 := nb_eq h2
  subst h2
  exact xa_of (fun p l e R s m args below meth c H locs cells slots Qw ls b X hl kk => lv_istore_n X.1 X.2.1 hd rfl hl (Nat.le_of_ble_eq_true h1) rfl (fun ls' h' => kk ls' (xl_of h' xl_put1))) (hk _ _ _ _ hs)
theorem xs_lstore (hk : ∀ pc L st h, k pc L st h → xAt lim g Q pc L st h) {i : Nat} (hd : decode (sgB g) pc = .ok (.lstore i, len)) (hc : xck g (pc, .lstore i, len, lk) = true) (hs : xstep lim g k Q pc L st h (.lstore i) len lk) : xAt lim g Q pc L st h := by
  obtain ⟨x, r, rfl, hs⟩ := xpl_el hs
  obtain ⟨h1, h2⟩ := and_el hc
  have h2 := nb_eq h2
  subst h2
  exact xa_of (fun p l e R s m args below meth c H locs cells slots Qw ls b X hl kk => lv_lstore X.1 X.2.1 hd hl (Nat.le_of_ble_eq_true h1) rfl (fun ls' h' => kk ls' (xl_of h' xl_put2))) (hk _ _ _ _ hs)
theorem xs_lstore_n (hk : ∀ pc L st h, k pc L st h → xAt lim g Q pc L st h) {i : Fin 4} (hd : decode (sgB g) pc = .ok (.lstore_n i, len)) (hc : xck g (pc, .lstore_n i, len, lk) = true) (hs : xstep lim g k Q pc L st h (.lstore_n i) len lk) : xAt lim g Q pc L st h := by
  obtain ⟨x, r, rfl, hs⟩ := xpl_el hs
  obtain ⟨h1, h2⟩ := and_el hc
  have h2 := nb_eq h2
  subst h2
  exact xa_of (fun p l e R s m args below meth c H locs cells slots Qw ls b X hl kk => lv_lstore_n X.1 X.2.1 hd rfl hl (Nat.le_of_ble_eq_true h1) rfl (fun ls' h' => kk ls' (xl_of h' xl_put2))) (hk _ _ _ _ hs)
theorem xs_astore (hk : ∀ pc L st h, k pc L st h → xAt lim g Q pc L st h) {i : Nat} (hd : decode (sgB g) pc = .ok (.astore i, len)) (hc : xck g (pc, .astore i, len, lk) = true) (hs : xstep lim g k Q pc L st h (.astore i) len lk) : xAt lim g Q pc L st h := by
  obtain ⟨x, r, rfl, hs⟩ := xpr_el hs
  obtain ⟨h1, h2⟩ := and_el hc
  have h2 := nb_eq h2
  subst h2
  exact xa_of (fun p l e R s m args below meth c H locs cells slots Qw ls b X hl kk => lv_astore X.1 X.2.1 hd hl (Nat.le_of_ble_eq_true h1) rfl (fun ls' h' => kk ls' (xl_of h' xl_put1))) (hk _ _ _ _ hs)
theorem xs_astore_n (hk : ∀ pc L st h, k pc L st h → xAt lim g Q pc L st h) {i : Fin 4} (hd : decode (sgB g) pc = .ok (.astore_n i, len)) (hc : xck g (pc, .astore_n i, len, lk) = true) (hs : xstep lim g k Q pc L st h (.astore_n i) len lk) : xAt lim g Q pc L st h := by
  obtain ⟨x, r, rfl, hs⟩ := xpr_el hs
  obtain ⟨h1, h2⟩ := and_el hc
  have h2 := nb_eq h2
  subst h2
  exact xa_of (fun p l e R s m args below meth c H locs cells slots Qw ls b X hl kk => lv_astore_n X.1 X.2.1 hd rfl hl (Nat.le_of_ble_eq_true h1) rfl (fun ls' h' => kk ls' (xl_of h' xl_put1))) (hk _ _ _ _ hs)
theorem xs_iinc (hk : ∀ pc L st h, k pc L st h → xAt lim g Q pc L st h) {i : Nat} {n : Int} (hd : decode (sgB g) pc = .ok (.iinc i n, len)) (hc : xck g (pc, .iinc i n, len, lk) = true) (hs : xstep lim g k Q pc L st h (.iinc i n) len lk) : xAt lim g Q pc L st h := by
  obtain ⟨v, rfl, hs⟩ := xlv_el hs
  obtain ⟨x, hx, hs⟩ := xgi_el hs
  obtain ⟨h01, h2⟩ := and_el hc
  obtain ⟨h0, h1⟩ := and_el h01
  have h2 := nb_eq h2
  subst h2
  have h0 : Int32.ofInt n = v := of_decide_eq_true h0
  subst h0
  refine xa_of (fun p l e R s m args below meth c H locs cells slots Qw ls b X hl kk => ?_) (hk _ _ _ _ hs)
  obtain ⟨q, hq⟩ := List.getElem?_of_mem (List.mem_map.mpr ⟨(i, .int x), xget_mem hx, rfl⟩ : (i, xcv b (.int x)) ∈ xcL b L)
  exact lv_iinc X.1 X.2.1 hd hl hq rfl (Nat.le_of_ble_eq_true h1) rfl (fun ls' h' => kk ls' (xl_of h' xl_put1))
theorem xs_iadd (hk : ∀ pc L st h, k pc L st h → xAt lim g Q pc L st h) (hd : decode (sgB g) pc = .ok (.iadd, len)) (hc : xck g (pc, .iadd, len, lk) = true) (hs : xstep lim g k Q pc L st h .iadd len lk) : xAt lim g Q pc L st h := by
  obtain ⟨y, r, rfl, hs⟩ := xpi_el hs
  obtain ⟨x, r, rfl, hs⟩ := xpi_el hs
  have h2 := nb_eq hc
  subst h2
  exact xa_of (fun p l e R s m args below meth c H locs cells slots Qw ls b X hl kk => lv_iadd X.1 X.2.1 hd (kk ls hl)) (hk _ _ _ _ hs)
theorem xs_isub (hk : ∀ pc L st h, k pc L st h → xAt lim g Q pc L st h) (hd : decode (sgB g) pc = .ok (.isub, len)) (hc : xck g (pc, .isub, len, lk) = true) (hs : xstep lim g k Q pc L st h .isub len lk) : xAt lim g Q pc L st h := by
  obtain ⟨y, r, rfl, hs⟩ := xpi_el hs
  obtain ⟨x, r, rfl, hs⟩ := xpi_el hs
  have h2 := nb_eq hc
  subst h2
  exact xa_of (fun p l e R s m args below meth c H locs cells slots Qw ls b X hl kk => lv_isub X.1 X.2.1 hd (kk ls hl)) (hk _ _ _ _ hs)
theorem xs_imul (hk : ∀ pc L st h, k pc L st h → xAt lim g Q pc L st h) (hd : decode (sgB g) pc = .ok (.imul, len)) (hc : xck g (pc, .imul, len, lk) = true) (hs : xstep lim g k Q pc L st h .imul len lk) : xAt lim g Q pc L st h := by
  obtain ⟨y, r, rfl, hs⟩ := xpi_el hs
  obtain ⟨x, r, rfl, hs⟩ := xpi_el hs
  have h2 := nb_eq hc
  subst h2
  exact xa_of (fun p l e R s m args below meth c H locs cells slots Qw ls b X hl kk => lv_imul X.1 X.2.1 hd (kk ls hl)) (hk _ _ _ _ hs)
theorem xs_iand (hk : ∀ pc L st h, k pc L st h → xAt lim g Q pc L st h) (hd : decode (sgB g) pc = .ok (.iand, len)) (hc : xck g (pc, .iand, len, lk) = true) (hs : xstep lim g k Q pc L st h .iand len lk) : xAt lim g Q pc L st h := by
  obtain ⟨y, r, rfl, hs⟩ := xpi_el hs
  obtain ⟨x, r, rfl, hs⟩ := xpi_el hs
  have h2 := nb_eq hc
  subst h2
  exact xa_of (fun p l e R s m args below meth c H locs cells slots Qw ls b X hl kk => lv_iand X.1 X.2.1 hd (kk ls hl)) (hk _ _ _ _ hs)
theorem xs_ior (hk : ∀ pc L st h, k pc L st h → xAt lim g Q pc L st h) (hd : decode (sgB g) pc = .ok (.ior, len)) (hc : xck g (pc, .ior, len, lk) = true) (hs : xstep lim g k Q pc L st h .ior len lk) : xAt lim g Q pc L st h := by
  obtain ⟨y, r, rfl, hs⟩ := xpi_el hs
  obtain ⟨x, r, rfl, hs⟩ := xpi_el hs
  have h2 := nb_eq hc
  subst h2
  exact xa_of (fun p l e R s m args below meth c H locs cells slots Qw ls b X hl kk => lv_ior X.1 X.2.1 hd (kk ls hl)) (hk _ _ _ _ hs)
theorem xs_ixor (hk : ∀ pc L st h, k pc L st h → xAt lim g Q pc L st h) (hd : decode (sgB g) pc = .ok (.ixor, len)) (hc : xck g (pc, .ixor, len, lk) = true) (hs : xstep lim g k Q pc L st h .ixor len lk) : xAt lim g Q pc L st h := by
  obtain ⟨y, r, rfl, hs⟩ := xpi_el hs
  obtain ⟨x, r, rfl, hs⟩ := xpi_el hs
  have h2 := nb_eq hc
  subst h2
  exact xa_of (fun p l e R s m args below meth c H locs cells slots Qw ls b X hl kk => lv_ixor X.1 X.2.1 hd (kk ls hl)) (hk _ _ _ _ hs)
theorem xs_ishl (hk : ∀ pc L st h, k pc L st h → xAt lim g Q pc L st h) (hd : decode (sgB g) pc = .ok (.ishl, len)) (hc : xck g (pc, .ishl, len, lk) = true) (hs : xstep lim g k Q pc L st h .ishl len lk) : xAt lim g Q pc L st h := by
  obtain ⟨y, r, rfl, hs⟩ := xpi_el hs
  obtain ⟨x, r, rfl, hs⟩ := xpi_el hs
  have h2 := nb_eq hc
  subst h2
  exact xa_of (fun p l e R s m args below meth c H locs cells slots Qw ls b X hl kk => lv_ishl X.1 X.2.1 hd (kk ls hl)) (hk _ _ _ _ hs)
theorem xs_ishr (hk : ∀ pc L st h, k pc L st h → xAt lim g Q pc L st h) (hd : decode (sgB g) pc = .ok (.ishr, len)) (hc : xck g (pc, .ishr, len, lk) = true) (hs : xstep lim g k Q pc L st h .ishr len lk) : xAt lim g Q pc L st h := by
  obtain ⟨y, r, rfl, hs⟩ := xpi_el hs
  obtain ⟨x, r, rfl, hs⟩ := xpi_el hs
  have h2 := nb_eq hc
  subst h2
  exact xa_of (fun p l e R s m args below meth c H locs cells slots Qw ls b X hl kk => lv_ishr X.1 X.2.1 hd (kk ls hl)) (hk _ _ _ _ hs)
theorem xs_iushr (hk : ∀ pc L st h, k pc L st h → xAt lim g Q pc L st h) (hd : decode (sgB g) pc = .ok (.iushr, len)) (hc : xck g (pc, .iushr, len, lk) = true) (hs : xstep lim g k Q pc L st h .iushr len lk) : xAt lim g Q pc L st h := by
  obtain ⟨y, r, rfl, hs⟩ := xpi_el hs
  obtain ⟨x, r, rfl, hs⟩ := xpi_el hs
  have h2 := nb_eq hc
  subst h2
  exact xa_of (fun p l e R s m args below meth c H locs cells slots Qw ls b X hl kk => lv_iushr X.1 X.2.1 hd rfl (kk ls hl)) (hk _ _ _ _ hs)
theorem xs_idiv (hk : ∀ pc L st h, k pc L st h → xAt lim g Q pc L st h) (hd : decode (sgB g) pc = .ok (.idiv, len)) (hc : xck g (pc, .idiv, len, lk) = true) (hs : xstep lim g k Q pc L st h .idiv len lk) : xAt lim g Q pc L st h := by
  obtain ⟨y, r, rfl, hs⟩ := xpi_el hs
  obtain ⟨x, r, rfl, hs⟩ := xpi_el hs
  obtain ⟨hn, hs⟩ := hs
  have h2 := nb_eq hc
  subst h2
  exact xa_of (fun p l e R s m args below meth c H locs cells slots Qw ls b X hl kk => lv_idiv X.1 X.2.1 hd hn (kk ls hl)) (hk _ _ _ _ hs)
theorem xs_irem (hk : ∀ pc L st h, k pc L st h → xAt lim g Q pc L st h) (hd : decode (sgB g) pc = .ok (.irem, len)) (hc : xck g (pc, .irem, len, lk) = true) (hs : xstep lim g k Q pc L st h .irem len lk) : xAt lim g Q pc L st h := by
  obtain ⟨y, r, rfl, hs⟩ := xpi_el hs
  obtain ⟨x, r, rfl, hs⟩ := xpi_el hs
  obtain ⟨hn, hs⟩ := hs
  have h2 := nb_eq hc
  subst h2
  exact xa_of (fun p l e R s m args below meth c H locs cells slots Qw ls b X hl kk => lv_irem X.1 X.2.1 hd hn (kk ls hl)) (hk _ _ _ _ hs)
theorem xs_ineg (hk : ∀ pc L st h, k pc L st h → xAt lim g Q pc L st h) (hd : decode (sgB g) pc = .ok (.ineg, len)) (hc : xck g (pc, .ineg, len, lk) = true) (hs : xstep lim g k Q pc L st h .ineg len lk) : xAt lim g Q pc L st h := by
  obtain ⟨x, r, rfl, hs⟩ := xpi_el hs
  have h2 := nb_eq hc
  subst h2
  exact xa_of (fun p l e R s m args below meth c H locs cells slots Qw ls b X hl kk => lv_ineg X.1 X.2.1 hd (kk ls hl)) (hk _ _ _ _ hs)
theorem xs_ladd (hk : ∀ pc L st h, k pc L st h → xAt lim g Q pc L st h) (hd : decode (sgB g) pc = .ok (.ladd, len)) (hc : xck g (pc, .ladd, len, lk) = true) (hs : xstep lim g k Q pc L st h .ladd len lk) : xAt lim g Q pc L st h := by
  obtain ⟨y, r, rfl, hs⟩ := xpl_el hs
  obtain ⟨x, r, rfl, hs⟩ := xpl_el hs
  have h2 := nb_eq hc
  subst h2
  exact xa_of (fun p l e R s m args below meth c H locs cells slots Qw ls b X hl kk => lv_ladd X.1 X.2.1 hd (kk ls hl)) (hk _ _ _ _ hs)
theorem xs_lmul (hk : ∀ pc L st h, k pc L st h → xAt lim g Q pc L st h) (hd : decode (sgB g) pc = .ok (.lmul, len)) (hc : xck g (pc, .lmul, len, lk) = true) (hs : xstep lim g k Q pc L st h .lmul len lk) : xAt lim g Q pc L st h := by
  obtain ⟨y, r, rfl, hs⟩ := xpl_el hs
  obtain ⟨x, r, rfl, hs⟩ := xpl_el hs
  have h2 := nb_eq hc
  subst h2
  exact xa_of (fun p l e R s m args below meth c H locs cells slots Qw ls b X hl kk => lv_lmul X.1 X.2.1 hd (kk ls hl)) (hk _ _ _ _ hs)
theorem xs_i2l (hk : ∀ pc L st h, k pc L st h → xAt lim g Q pc L st h) (hd : decode (sgB g) pc = .ok (.i2l, len)) (hc : xck g (pc, .i2l, len, lk) = true) (hs : xstep lim g k Q pc L st h .i2l len lk) : xAt lim g Q pc L st h := by
  obtain ⟨x, r, rfl, hs⟩ := xpi_el hs
  have h2 := nb_eq hc
  subst h2
  exact xa_of (fun p l e R s m args below meth c H locs cells slots Qw ls b X hl kk => lv_i2l X.1 X.2.1 hd rfl (kk ls hl)) (hk _ _ _ _ hs)
theorem xs_dup (hk : ∀ pc L st h, k pc L st h → xAt lim g Q pc L st h) (hd : decode (sgB g) pc = .ok (.dup, len)) (hc : xck g (pc, .dup, len, lk) = true) (hs : xstep lim g k Q pc L st h .dup len lk) : xAt lim g Q pc L st h := by
  obtain ⟨v, r, rfl, hs⟩ := xp1_el hs
  obtain ⟨hv, hs⟩ := bif_el hs
  have hv := nb_eq hv
  have h2 := nb_eq hc
  subst h2
  exact xa_of (fun p l e R s m args below meth c H locs cells slots Qw ls b X hl kk => lv_dup X.1 X.2.1 hd ((xcv_cat b v).trans hv) (kk ls hl)) (hk _ _ _ _ hs)
theorem xs_pop (hk : ∀ pc L st h, k pc L st h → xAt lim g Q pc L st h) (hd : decode (sgB g) pc = .ok (.pop, len)) (hc : xck g (pc, .pop, len, lk) = true) (hs : xstep lim g k Q pc L st h .pop len lk) : xAt lim g Q pc L st h := by
  obtain ⟨v, r, rfl, hs⟩ := xp1_el hs
  obtain ⟨hv, hs⟩ := bif_el hs
  have hv := nb_eq hv
  have h2 := nb_eq hc
  subst h2
  exact xa_of (fun p l e R s m args below meth c H locs cells slots Qw ls b X hl kk => lv_pop X.1 X.2.1 hd ((xcv_cat b v).trans hv) (kk ls hl)) (hk _ _ _ _ hs)
theorem xs_dup2 (hk : ∀ pc L st h, k pc L st h → xAt lim g Q pc L st h) (hd : decode (sgB g) pc = .ok (.dup2, len)) (hc : xck g (pc, .dup2, len, lk) = true) (hs : xstep lim g k Q pc L st h .dup2 len lk) : xAt lim g Q pc L st h := by
  obtain ⟨v, r, rfl, hs⟩ := xp1_el hs
  obtain ⟨u, r, rfl, hs⟩ := xp1_el hs
  obtain ⟨hv, hs⟩ := bif_el hs
  obtain ⟨hv, hu⟩ := and_el hv
  have hv := nb_eq hv
  have hu := nb_eq hu
  have h2 := nb_eq hc
  subst h2
  exact xa_of (fun p l e R s m args below meth c H locs cells slots Qw ls b X hl kk => lv_dup2_11 X.1 X.2.1 hd ((xcv_cat b v).trans hv) ((xcv_cat b u).trans hu) (kk ls hl)) (hk _ _ _ _ hs)
theorem xs_ifCond_eq (hk : ∀ pc L st h, k pc L st h → xAt lim g Q pc L st h) {n : Int} (hd : decode (sgB g) pc = .ok (.ifCond .eq n, len)) (hc : xck g (pc, .ifCond .eq n, len, lk) = true) (hs : xstep lim g k Q pc L st h (.ifCond .eq n) len lk) : xAt lim g Q pc L st h := by
  obtain ⟨t, t2, rfl, hs⟩ := xlf_el hs
  obtain ⟨x, r, rfl, hs⟩ := xpi_el hs
  obtain ⟨h1, h2⟩ := and_el hc
  have h2 := nb_eq h2
  subst h2
  have h1 : (pc : Int) + n = (t : Int) := of_decide_eq_true h1
  intro p l e s m args below meth c D cI cR b N0 S0 H locs ls X C hl
  exact lv_if_eq X.1 X.2.1 hd h1 (fun z => hk _ _ _ _ (hs.1 z) p l e s m args below meth c D cI cR b N0 S0 H locs ls X C hl) (fun z => hk _ _ _ _ (hs.2 z) p l e s m args below meth c D cI cR b N0 S0 H locs ls X C hl)
theorem xs_if_icmp_eq (hk : ∀ pc L st h, k pc L st h → xAt lim g Q pc L st h) {n : Int} (hd : decode (sgB g) pc = .ok (.if_icmp .eq n, len)) (hc : xck g (pc, .if_icmp .eq n, len, lk) = true) (hs : xstep lim g k Q pc L st h (.if_icmp .eq n) len lk) : xAt lim g Q pc L st h := by
  obtain ⟨t, t2, rfl, hs⟩ := xlf_el hs
  obtain ⟨y, r, rfl, hs⟩ := xpi_el hs
  obtain ⟨x, r, rfl, hs⟩ := xpi_el hs
  obtain ⟨h1, h2⟩ := and_el hc
  have h2 := nb_eq h2
  subst h2
  have h1 : (pc : Int) + n = (t : Int) := of_decide_eq_true h1
  intro p l e s m args below meth c D cI cR b N0 S0 H locs ls X C hl
  exact lv_icmp_eq X.1 X.2.1 hd h1 (fun z => hk _ _ _ _ (hs.1 z) p l e s m args below meth c D cI cR b N0 S0 H locs ls X C hl) (fun z => hk _ _ _ _ (hs.2 z) p l e s m args below meth c D cI cR b N0 S0 H locs ls X C hl)
theorem xs_ifCond_ne (hk : ∀ pc L st h, k pc L st h → xAt lim g Q pc L st h) {n : Int} (hd : decode (sgB g) pc = .ok (.ifCond .ne n, len)) (hc : xck g (pc, .ifCond .ne n, len, lk) = true) (hs : xstep lim g k Q pc L st h (.ifCond .ne n) len lk) : xAt lim g Q pc L st h := by
  obtain ⟨t, t2, rfl, hs⟩ := xlf_el hs
  obtain ⟨x, r, rfl, hs⟩ := xpi_el hs
  obtain ⟨h1, h2⟩ := and_el hc
  have h2 := nb_eq h2
  subst h2
  have h1 : (pc : Int) + n = (t : Int) := of_decide_eq_true h1
  intro p l e s m args below meth c D cI cR b N0 S0 H locs ls X C hl
  exact lv_if_ne X.1 X.2.1 hd h1 (fun z => hk _ _ _ _ (hs.2 z) p l e s m args below meth c D cI cR b N0 S0 H locs ls X C hl) (fun z => hk _ _ _ _ (hs.1 z) p l e s m args below meth c D cI cR b N0 S0 H locs ls X C hl)
theorem xs_if_icmp_ne (hk : ∀ pc L st h, k pc L st h → xAt lim g Q pc L st h) {n : Int} (hd : decode (sgB g) pc = .ok (.if_icmp .ne n, len)) (hc : xck g (pc, .if_icmp .ne n, len, lk) = true) (hs : xstep lim g k Q pc L st h (.if_icmp .ne n) len lk) : xAt lim g Q pc L st h := by
  obtain ⟨t, t2, rfl, hs⟩ := xlf_el hs
  obtain ⟨y, r, rfl, hs⟩ := xpi_el hs
  obtain ⟨x, r, rfl, hs⟩ := xpi_el hs
  obtain ⟨h1, h2⟩ := and_el hc
  have h2 := nb_eq h2
  subst h2
  have h1 : (pc : Int) + n = (t : Int) := of_decide_eq_true h1
  intro p l e s m args below meth c D cI cR b N0 S0 H locs ls X C hl
  exact lv_icmp_ne X.1 X.2.1 hd h1 (fun z => hk _ _ _ _ (hs.2 z) p l e s m args below meth c D cI cR b N0 S0 H locs ls X C hl) (fun z => hk _ _ _ _ (hs.1 z) p l e s m args below meth c D cI cR b N0 S0 H locs ls X C hl)
theorem xs_ifCond_lt (hk : ∀ pc L st h, k pc L st h → xAt lim g Q pc L st h) {n : Int} (hd : decode (sgB g) pc = .ok (.ifCond .lt n, len)) (hc : xck g (pc, .ifCond .lt n, len, lk) = true) (hs : xstep lim g k Q pc L st h (.ifCond .lt n) len lk) : xAt lim g Q pc L st h := by
  obtain ⟨t, t2, rfl, hs⟩ := xlf_el hs
  obtain ⟨x, r, rfl, hs⟩ := xpi_el hs
  obtain ⟨h1, h2⟩ := and_el hc
  have h2 := nb_eq h2
  subst h2
  have h1 : (pc : Int) + n = (t : Int) := of_decide_eq_true h1
  intro p l e s m args below meth c D cI cR b N0 S0 H locs ls X C hl
  exact lv_if_lt X.1 X.2.1 hd h1 (fun z => hk _ _ _ _ (hs.1 z) p l e s m args below meth c D cI cR b N0 S0 H locs ls X C hl) (fun z => hk _ _ _ _ (hs.2 z) p l e s m args below meth c D cI cR b N0 S0 H locs ls X C hl)
theorem xs_if_icmp_lt (hk : ∀ pc L st h, k pc L st h → xAt lim g Q pc L st h) {n : Int} (hd : decode (sgB g) pc = .ok (.if_icmp .lt n, len)) (hc : xck g (pc, .if_icmp .lt n, len, lk) = true) (hs : xstep lim g k Q pc L st h (.if_icmp .lt n) len lk) : xAt lim g Q pc L st h := by
  obtain ⟨t, t2, rfl, hs⟩ := xlf_el hs
  obtain ⟨y, r, rfl, hs⟩ := xpi_el hs
  obtain ⟨x, r, rfl, hs⟩ := xpi_el hs
  obtain ⟨h1, h2⟩ := and_el hc
  have h2 := nb_eq h2
  subst h2
  have h1 : (pc : Int) + n = (t : Int) := of_decide_eq_true h1
  intro p l e s m args below meth c D cI cR b N0 S0 H locs ls X C hl
  exact lv_icmp_lt X.1 X.2.1 hd h1 (fun z => hk _ _ _ _ (hs.1 z) p l e s m args below meth c D cI cR b N0 S0 H locs ls X C hl) (fun z => hk _ _ _ _ (hs.2 z) p l e s m args below meth c D cI cR b N0 S0 H locs ls X C hl)
theorem xs_ifCond_ge (hk : ∀ pc L st h, k pc L st h → xAt lim g Q pc L st h) {n : Int} (hd : decode (sgB g) pc = .ok (.ifCond .ge n, len)) (hc : xck g (pc, .ifCond .ge n, len, lk) = true) (hs : xstep lim g k Q pc L st h (.ifCond .ge n) len lk) : xAt lim g Q pc L st h := by
  obtain ⟨t, t2, rfl, hs⟩ := xlf_el hs
  obtain ⟨x, r, rfl, hs⟩ := xpi_el hs
  obtain ⟨h1, h2⟩ := and_el hc
  have h2 := nb_eq h2
  subst h2
  have h1 : (pc : Int) + n = (t : Int) := of_decide_eq_true h1
  intro p l e s m args below meth c D cI cR b N0 S0 H locs ls X C hl
  exact lv_if_ge X.1 X.2.1 hd h1 (fun z => hk _ _ _ _ (hs.1 z) p l e s m args below meth c D cI cR b N0 S0 H locs ls X C hl) (fun z => hk _ _ _ _ (hs.2 z) p l e s m args below meth c D cI cR b N0 S0 H locs ls X C hl)
theorem xs_if_icmp_ge (hk : ∀ pc L st h, k pc L st h → xAt lim g Q pc L st h) {n : Int} (hd : decode (sgB g) pc = .ok (.if_icmp .ge n, len)) (hc : xck g (pc, .if_icmp .ge n, len, lk) = true) (hs : xstep lim g k Q pc L st h (.if_icmp .ge n) len lk) : xAt lim g Q pc L st h := by
  obtain ⟨t, t2, rfl, hs⟩ := xlf_el hs
  obtain ⟨y, r, rfl, hs⟩ := xpi_el hs
  obtain ⟨x, r, rfl, hs⟩ := xpi_el hs
  obtain ⟨h1, h2⟩ := and_el hc
  have h2 := nb_eq h2
  subst h2
  have h1 : (pc : Int) + n = (t : Int) := of_decide_eq_true h1
  intro p l e s m args below meth c D cI cR b N0 S0 H locs ls X C hl
  exact lv_icmp_ge X.1 X.2.1 hd h1 (fun z => hk _ _ _ _ (hs.1 z) p l e s m args below meth c D cI cR b N0 S0 H locs ls X C hl) (fun z => hk _ _ _ _ (hs.2 z) p l e s m args below meth c D cI cR b N0 S0 H locs ls X C hl)
theorem xs_ifCond_gt (hk : ∀ pc L st h, k pc L st h → xAt lim g Q pc L st h) {n : Int} (hd : decode (sgB g) pc = .ok (.ifCond .gt n, len)) (hc : xck g (pc, .ifCond .gt n, len, lk) = true) (hs : xstep lim g k Q pc L st h (.ifCond .gt n) len lk) : xAt lim g Q pc L st h := by
  obtain ⟨t, t2, rfl, hs⟩ := xlf_el hs
  obtain ⟨x, r, rfl, hs⟩ := xpi_el hs
  obtain ⟨h1, h2⟩ := and_el hc
  have h2 := nb_eq h2
  subst h2
  have h1 : (pc : Int) + n = (t : Int) := of_decide_eq_true h1
  intro p l e s m args below meth c D cI cR b N0 S0 H locs ls X C hl
  exact lv_if_gt X.1 X.2.1 hd h1 (fun z => hk _ _ _ _ (hs.1 z) p l e s m args below meth c D cI cR b N0 S0 H locs ls X C hl) (fun z => hk _ _ _ _ (hs.2 z) p l e s m args below meth c D cI cR b N0 S0 H locs ls X C hl)
theorem xs_if_icmp_gt (hk : ∀ pc L st h, k pc L st h → xAt lim g Q pc L st h) {n : Int} (hd : decode (sgB g) pc = .ok (.if_icmp .gt n, len)) (hc : xck g (pc, .if_icmp .gt n, len, lk) = true) (hs : xstep lim g k Q pc L st h (.if_icmp .gt n) len lk) : xAt lim g Q pc L st h := by
  obtain ⟨t, t2, rfl, hs⟩ := xlf_el hs
  obtain ⟨y, r, rfl, hs⟩ := xpi_el hs
  obtain ⟨x, r, rfl, hs⟩ := xpi_el hs
  obtain ⟨h1, h2⟩ := and_el hc
  have h2 := nb_eq h2
  subst h2
  have h1 : (pc : Int) + n = (t : Int) := of_decide_eq_true h1
  intro p l e s m args below meth c D cI cR b N0 S0 H locs ls X C hl
  exact lv_icmp_gt X.1 X.2.1 hd h1 (fun z => hk _ _ _ _ (hs.1 z) p l e s m args below meth c D cI cR b N0 S0 H locs ls X C hl) (fun z => hk _ _ _ _ (hs.2 z) p l e s m args below meth c D cI cR b N0 S0 H locs ls X C hl)
theorem xs_ifCond_le (hk : ∀ pc L st h, k pc L st h → xAt lim g Q pc L st h) {n : Int} (hd : decode (sgB g) pc = .ok (.ifCond .le n, len)) (hc : xck g (pc, .ifCond .le n, len, lk) = true) (hs : xstep lim g k Q pc L st h (.ifCond .le n) len lk) : xAt lim g Q pc L st h := by
  obtain ⟨t, t2, rfl, hs⟩ := xlf_el hs
  obtain ⟨x, r, rfl, hs⟩ := xpi_el hs
  obtain ⟨h1, h2⟩ := and_el hc
  have h2 := nb_eq h2
  subst h2
  have h1 : (pc : Int) + n = (t : Int) := of_decide_eq_true h1
  intro p l e s m args below meth c D cI cR b N0 S0 H locs ls X C hl
  exact lv_if_le X.1 X.2.1 hd h1 (fun z => hk _ _ _ _ (hs.1 z) p l e s m args below meth c D cI cR b N0 S0 H locs ls X C hl) (fun z => hk _ _ _ _ (hs.2 z) p l e s m args below meth c D cI cR b N0 S0 H locs ls X C hl)
theorem xs_if_icmp_le (hk : ∀ pc L st h, k pc L st h → xAt lim g Q pc L st h) {n : Int} (hd : decode (sgB g) pc = .ok (.if_icmp .le n, len)) (hc : xck g (pc, .if_icmp .le n, len, lk) = true) (hs : xstep lim g k Q pc L st h (.if_icmp .le n) len lk) : xAt lim g Q pc L st h := by
  obtain ⟨t, t2, rfl, hs⟩ := xlf_el hs
  obtain ⟨y, r, rfl, hs⟩ := xpi_el hs
  obtain ⟨x, r, rfl, hs⟩ := xpi_el hs
  obtain ⟨h1, h2⟩ := and_el hc
  have h2 := nb_eq h2
  subst h2
  have h1 : (pc : Int) + n = (t : Int) := of_decide_eq_true h1
  intro p l e s m args below meth c D cI cR b N0 S0 H locs ls X C hl
  exact lv_icmp_le X.1 X.2.1 hd h1 (fun z => hk _ _ _ _ (hs.1 z) p l e s m args below meth c D cI cR b N0 S0 H locs ls X C hl) (fun z => hk _ _ _ _ (hs.2 z) p l e s m args below meth c D cI cR b N0 S0 H locs ls X C hl)
theorem xs_goto (hk : ∀ pc L st h, k pc L st h → xAt lim g Q pc L st h) {n : Int} (hd : decode (sgB g) pc = .ok (.goto n, len)) (hc : xck g (pc, .goto n, len, lk) = true) (hs : xstep lim g k Q pc L st h (.goto n) len lk) : xAt lim g Q pc L st h := by
  obtain ⟨t, t2, rfl, hs⟩ := xlf_el hs
  obtain ⟨h1, h2⟩ := and_el hc
  have h2 := nb_eq h2
  subst h2
  exact xa_of (fun p l e R s m args below meth c H locs cells slots Qw ls b X hl kk => lv_goto X.1 X.2.1 hd (of_decide_eq_true h1) (kk ls hl)) (hk _ _ _ _ hs)
theorem xsw_el {pc d : Nat} {P : Nat → Prop} : ∀ {offs : List Int} {lo : Int} {ps : List (Int32 × Nat)} {x : Int32}, xswk pc offs lo ps = true → xsw ps x P d →
    (∃ (o : Int) (t : Nat), lo ≤ x.toInt ∧ x.toInt < lo + ps.length ∧ offs[(x.toInt - lo).toNat]? = some o ∧ (pc : Int) + o = (t : Int) ∧ P t) ∨ ((x.toInt < lo ∨ lo + ps.length ≤ x.toInt) ∧ P d)
  | offs, lo, [], x, hc, hs => by
    refine Or.inr ⟨?_, hs⟩
    simp only [List.length_nil]
    omega
  | [], lo, (v, t) :: r, x, hc, hs => by
    cases hc
  | o :: os, lo, (v, t) :: r, x, hc, hs => by
    unfold xswk at hc
    obtain ⟨h01, h2⟩ := and_el hc
    obtain ⟨h0, h1⟩ := and_el h01
    have h0 : v.toInt = lo := of_decide_eq_true h0
    have h1 : (pc : Int) + o = (t : Int) := of_decide_eq_true h1
    by_cases hx : x = v
    · subst hx
      refine Or.inl ⟨o, t, by omega, by simp only [List.length_cons]; omega, ?_, h1, hs.1 rfl⟩
      rw [h0, Int.sub_self]
      rfl
    · have hne : ¬ x.toInt = lo := fun q => hx (Int32.toInt_inj.mp (q.trans h0.symm))
      rcases xsw_el h2 (hs.2 hx) with ⟨o', t', g1, g2, g3, g4, g5⟩ | ⟨g1, g2⟩
      · refine Or.inl ⟨o', t', by omega, by simp only [List.length_cons]; omega, ?_, g4, g5⟩
        rw [show (x.toInt - lo).toNat = (x.toInt - (lo + 1)).toNat + 1 by omega]
        exact g3
      · refine Or.inr ⟨?_, g2⟩
        simp only [List.length_cons]
        omega
theorem xs_tableswitch (hk : ∀ pc L st h, k pc L st h → xAt lim g Q pc L st h) {n lo hi : Int} {offs : Array Int} (hd : decode (sgB g) pc = .ok (.tableswitch n lo hi offs, len)) (hc : xck g (pc, .tableswitch n lo hi offs, len, lk) = true) (hs : xstep lim g k Q pc L st h (.tableswitch n lo hi offs) len lk) : xAt lim g Q pc L st h := by
  replace hs : xtsw k L st h lk := hs
  unfold xtsw at hs
  split at hs
  next d ps =>
    obtain ⟨x, r, rfl, hs⟩ := xpi_el hs
    obtain ⟨h01, h2⟩ := and_el hc
    obtain ⟨h0, h1⟩ := and_el h01
    have h0 : (pc : Int) + n = (d : Int) := of_decide_eq_true h0
    have h2 : hi = lo + ps.length - 1 := of_decide_eq_true h2
    rcases xsw_el h1 hs with ⟨o, t, g1, g2, g3, g4, g5⟩ | ⟨g1, g2⟩
    · exact xa_of (fun p l e R s m args below meth c H locs cells slots Qw ls b X hl kk => lv_tableIn X.1 X.2.1 hd (by omega) (by omega) (by simpa using g3) g4 (kk ls hl)) (hk _ _ _ _ g5)
    · exact xa_of (fun p l e R s m args below meth c H locs cells slots Qw ls b X hl kk => lv_tableOut X.1 X.2.1 hd (by omega) h0 (kk ls hl)) (hk _ _ _ _ g2)
  · exact hs.elim
/-! the world -/
theorem xWd_one {D : va_G} {cI cR : ClassId} {b : xB} {H : Heap} {a : Nat} {e : xE} (hW : xWd D cI cR b h H) (ha : xat h a e) : va_P D xcl [(b.1 + a, xce cI cR b e)] H := by
  intro k q hq
  have hk : k < 1 := (List.getElem?_eq_some_iff.mp hq).1
  rw [show k = 0 by omega] at hq
  cases hq
  have := hW.2 a ha.1
  rw [ha.2] at this
  exact this
theorem xWd_put {D : va_G} {cI cR : ClassId} {b : xB} {H H1 : Heap} {a : Nat} {e : xE} (hW : xWd D cI cR b h H) (ha : a < h.1) (z : H1.size = H.size) (he : va_at D xcl (b.1 + a, xce cI cR b e) H1) (oq : ∀ q : Nat, q ≠ b.1 + a → H1[q]? = H[q]?) : xWd D cI cR b (xset h a e) H1 := by
  refine ⟨z.trans hW.1, fun k hk => ?_⟩
  show va_at D xcl (b.1 + k, xce cI cR b (va_up h.2.2 a e k)) H1
  by_cases hka : k = a
  · subst hka
    rw [va_up_self]
    exact he
  · rw [va_up_ne _ _ hka]
    exact (hW.2 k hk).kept (oq (b.1 + k) (by omega))
theorem xWd_new {D : va_G} {cI cR : ClassId} {b : xB} {n : Nat} {H H1 : Heap} {e : xE} (hW : xWd D cI cR b h H) (z : H1.size = H.size + 1) (he : va_at D xcl (b.1 + h.1, xce cI cR b e) H1) (oq : ∀ q : Nat, q < H.size → H1[q]? = H[q]?) : xWd D cI cR b (xnew h n e) H1 := by
  refine ⟨by rw [z, hW.1]; exact Nat.add_assoc _ _ _, fun k hk => ?_⟩
  have hk : k < h.1 + 1 := hk
  show va_at D xcl (b.1 + k, xce cI cR b (va_up h.2.2 h.1 e k)) H1
  by_cases hka : k = h.1
  · subst hka
    rw [va_up_self]
    exact he
  · rw [va_up_ne _ _ hka]
    exact (hW.2 k (by omega)).kept (oq (b.1 + k) (by rw [hW.1]; omega))
theorem xCx_put {D : va_G} {cI cR : ClassId} {b : xB} {N0 S0 : Nat} {s : State} {H H1 : Heap} {locs : List Loc} {a i : Nat} {e : xE} (C : xCx lim g D cI cR b N0 S0 s h H locs) (ha : a < h.1) (z : H1.size = H.size) (he : va_at D xcl (b.1 + a, xce cI cR b e) H1) (oq : ∀ q : Nat, q ≠ b.1 + a → H1[q]? = H[q]?) : xCx lim g D cI cR b N0 S0 s (xset h a e) H1 (locs ++ [⟨b.1 + a, i⟩]) := by
  obtain ⟨hK, hW, hS, r⟩ := C
  exact ⟨hK, xWd_put hW ha z he oq, hS.put z oq (Nat.le_add_right b.1 a), r⟩
theorem xCx_new {D : va_G} {cI cR : ClassId} {b : xB} {N0 S0 n : Nat} {s : State} {H H1 : Heap} {locs : List Loc} {e : xE} (C : xCx lim g D cI cR b N0 S0 s h H locs) (z : H1.size = H.size + 1) (he : va_at D xcl (b.1 + h.1, xce cI cR b e) H1) (oq : ∀ q : Nat, q < H.size → H1[q]? = H[q]?) (l1 : h.1 + 1 ≤ lim.1) (l2 : h.2.1 + n ≤ lim.2) : xCx lim g D cI cR b N0 S0 s (xnew h n e) H1 locs := by
  obtain ⟨hK, hW, hS, r1, r2, r3, r4, r5⟩ := C
  refine ⟨hK, xWd_new hW z he oq, ⟨by rw [z]; exact Nat.le_succ_of_le hS.1, fun q h1 h2 => (oq q (Nat.lt_of_lt_of_le h1 hS.1)).trans (hS.2.1 q h1 h2), hS.2.2⟩, r1, ?_, l1, ?_, l2⟩
  · show N0 ≤ h.1 + 1
    omega
  · show S0 ≤ h.2.1 + n
    omega
theorem xcl_in {ci : Nat} {r : vw_C} (hr : xcl[ci]? = some r) : xclP ci r := xcl_ok ci r hr
theorem xs_getfield (hk : ∀ pc L st h, k pc L st h → xAt lim g Q pc L st h) {n : Nat} (hd : decode (sgB g) pc = .ok (.getfield n, len)) (hc : xck g (pc, .getfield n, len, lk) = true) (hq : xlk g (pc, .getfield n, len, lk)) (hs : xstep lim g k Q pc L st h (.getfield n) len lk) : xAt lim g Q pc L st h := by
  obtain ⟨ci, fk, rfl, hs⟩ := xlf_el hs
  obtain ⟨a, r, rfl, fs, v, ha, hv, hs⟩ := xpr_el hs
  have h2 := nb_eq hc
  subst h2
  obtain ⟨rc, hrc, hfk, hlink⟩ := hq
  obtain ⟨C0, T, N⟩ := rc
  have hin := (xcl_in hrc).2.2.2.2.1
  intro p l e s m args below meth c D cI cR b N0 S0 H locs ls X C hl
  have hts : ∀ w ∈ lw_g, w.before args s = true := fun w hw => X.2.2.2.2.2.2.2 w (List.mem_cons_of_mem _ hw)
  exact va_get (ws := [(b.1 + a, xce cI cR b (xob ci fs))]) X.1 X.2.1 hts hin X.2.2.2.2.2.1 C.1.1 (xWd_one C.2.1 ha) 0 rfl hrc fk hfk (hts _ hlink) (fun _ h9 => h9) (by rw [List.getElem?_map, hv]; rfl) hd (hk _ _ _ _ hs p l e s m args below meth c D cI cR b N0 S0 H locs ls X C hl)
theorem x_put {p : Program} {l : Launch} {e : Env} {R : Room} {s : State} {m : MethodId} {args : Array Value} {below : List Frame} {meth : Method} {c : Code} {H : Heap} {locs : List Loc} {cells slots : Nat} {Qw : State → Prop} {D : va_G} {cI cR : ClassId} {b : xB} {n a ci fk : Nat} {fs rest : List Value} {v : Value} {ls : Array Slot}
    (X : xFix p s m args meth c g) (hK : va_K D xcl (xtys cI cR) s) (hW : xWd D cI cR b h H) (ha : xat h a (xob ci fs)) (hl : fk < fs.length) (hv : xvk (xfty ci fk) v = true) (hq : xfl (sgN g).cls n ci fk) (hd : decode (sgB g) pc = .ok (.putfield n, 3))
    (hfin : ∀ r, xcl[ci]? = some r → (r.2.1 fk).2.2.2 = true → meth.name = "<init>" ∧ r.1 = (sgN g).cls)
    (kk : ∀ (H1 : Heap) (i : Nat), H1.size = H.size → va_at D xcl (b.1 + a, xce cI cR b (xob ci (fs.set fk v))) H1 → (∀ q : Nat, q ≠ b.1 + a → H1[q]? = H[q]?) → W p l e R s m args below meth c H1 (locs ++ [⟨b.1 + a, i⟩]) cells slots Qw (F0 m (pc + 3) ls rest)) : W p l e R s m args below meth c H locs cells slots Qw (F0 m pc ls (xcv b v :: .ref (b.1 + a) :: rest)) := by
  obtain ⟨rc, hrc, hk, hlink⟩ := hq
  have hts : ∀ w ∈ lw_g, w.before args s = true := fun w hw => X.2.2.2.2.2.2.2 w (List.mem_cons_of_mem _ hw)
  obtain ⟨C0, T, N⟩ := rc
  obtain ⟨hty, hnm, hdecl, -, hin, -⟩ := xcl_in hrc
  have hown := X.2.2.2.2.2.1
  have hap := va_apart (own := (sgN g).cls) hts hin (xfty ci) hty hnm hK hrc
  have hat := hW.2 a ha.1
  rw [ha.2] at hat
  obtain ⟨r, h1, cell, q1, q2, q3, q4⟩ := hat
  have hr : r = (C0, T, N) := Option.some.inj (h1.symm.trans hrc)
  subst hr
  obtain ⟨hS, hfc, kC, hkC, hkind⟩ := hK.1 ci _ hrc
  obtain ⟨cf, kf, fi, f, hi, hsl⟩ := hS fk hk
  have hst := (u_facts hfc hkC (u_lays hts hin hk) hi).1
  obtain ⟨hn, hfit⟩ := xvk_ok b hv
  have fin : ∀ H' : Heap, H'[b.1 + a]? = some (cell.setSlot f.slot (xcv b v)) → H'.size = H.size → (∀ q, q ≠ b.1 + a → H'[q]? = H[q]?) → W p l e R s m args below meth c H' (locs ++ [⟨b.1 + a, f.slot⟩]) cells slots Qw (F0 m (pc + 3) ls rest) := by
    intro H' e1 e2 e3
    rw [hsl] at e1 ⊢
    refine kk H' _ e2 ⟨_, hrc, ?_⟩ e3
    have e0 : (fs.set fk v).map (xcv b) = (fs.map (xcv b)).set fk (xcv b v) := by rw [List.map_set]
    show t_OB (b.1 + a) (D.1 ci) N (D.2 ci) H' (vp_V ((fs.set fk v).map (xcv b)))
    rw [e0]
    exact t_OB.to (V := updV (vp_V (fs.map (xcv b))) fk (xcv b v)) ⟨_, e1, q2, q3, t_set q4 hap hk (xcv b v)⟩ (fun j _ => vp_updV_set (by rw [List.length_map]; exact hl) (xcv b v) j)
  have hlay := hts _ (hin _ (u_in_lay hk))
  unfold u_lay at hlay
  by_cases hf : (T fk).2.2.2 = true
  · rw [if_pos hf] at hlay
    obtain ⟨hin2, hcls⟩ := hfin _ hrc hf
    have hcls : C0 = (sgN g).cls := hcls
    have hcf : m.cls = cf := by
      obtain ⟨_, _, c', _, _, _, -, -, hf', -, -, -, hown2, -⟩ := Cond.laysFinal_spec hlay
      have e1 : c' = cf := by have := hi.symm.trans hf'; simp at this; exact this.1.symm
      have hd2 : (T fk).1 = C0 := hdecl fk hk
      rw [hd2, hcls] at hown2
      rw [← e1]; exact Option.some.inj (hown.symm.trans hown2)
    have h6 := u_fits hfc hkC hkind (Or.inr hlay) hi (hty fk hk) hn hfit
    exact W.putFinK X.1 X.2.1 hown (hts _ hlink) hi hst hcf hin2 (by rw [q2]; exact h6) q1 q3 (by rw [hsl]; exact k2_hasslot (q4 fk hk)) rfl rfl hd fin
  · rw [if_neg hf] at hlay
    have h6 := u_store hfc hkC hkind hlay hi (hty fk hk) hn hfit
    exact W.putK X.1 X.2.1 (f := f) ⟨hown, hts _ hlink, ⟨_, _, _, hi⟩, hst⟩ (by rw [q2]; exact h6) q1 q3 (by rw [hsl]; exact k2_hasslot (q4 fk hk)) rfl rfl hd fin
theorem xs_putfield (hk : ∀ pc L st h, k pc L st h → xAt lim g Q pc L st h) {n : Nat} (hd : decode (sgB g) pc = .ok (.putfield n, len)) (hc : xck g (pc, .putfield n, len, lk) = true) (hq : xlk g (pc, .putfield n, len, lk)) (hs : xstep lim g k Q pc L st h (.putfield n) len lk) : xAt lim g Q pc L st h := by
  obtain ⟨ci, fk, rfl, hs⟩ := xlf_el hs
  obtain ⟨v, r, rfl, hs⟩ := xp1_el hs
  obtain ⟨a, r, rfl, fs, ha, hl, hs⟩ := xpr_el hs
  obtain ⟨hv, hs⟩ := bif_el hs
  have h2 := nb_eq hc
  subst h2
  intro p l e s m args below meth c D cI cR b N0 S0 H locs ls X C hl0
  exact x_put X C.1.1 C.2.1 ha hl hv hq.1 hd (fun rc hrc hf => by
    obtain ⟨g1, g2⟩ := hq.2 rc hrc hf
    exact ⟨X.2.2.2.2.2.2.1.trans g1, g2⟩) (fun H1 i z he oq => hk _ _ _ _ hs p l e s m args below meth c D cI cR b N0 S0 H1 _ ls X (xCx_put C ha.1 z he oq) hl0)
theorem xs_iaload (hk : ∀ pc L st h, k pc L st h → xAt lim g Q pc L st h) (hd : decode (sgB g) pc = .ok (.iaload, len)) (hc : xck g (pc, .iaload, len, lk) = true) (hs : xstep lim g k Q pc L st h .iaload len lk) : xAt lim g Q pc L st h := by
  obtain ⟨i, r, rfl, hs⟩ := xpi_el hs
  obtain ⟨a, r, rfl, n, f, j, ha, hi, hs⟩ := xpr_el hs
  have h2 := nb_eq hc
  subst h2
  obtain ⟨hi1, hi2⟩ := xix_in hi
  subst hi2
  intro p l e s m args below meth c D cI cR b N0 S0 H locs ls X C hl
  exact va_iald (ws := [(b.1 + a, xce cI cR b (xia n f))]) X.1 X.2.1 C.1.1 (xWd_one C.2.1 ha) 0 0 rfl rfl hi1 hd (hk _ _ _ _ hs p l e s m args below meth c D cI cR b N0 S0 H locs ls X C hl)
theorem xs_arraylength (hk : ∀ pc L st h, k pc L st h → xAt lim g Q pc L st h) (hd : decode (sgB g) pc = .ok (.arraylength, len)) (hc : xck g (pc, .arraylength, len, lk) = true) (hs : xstep lim g k Q pc L st h .arraylength len lk) : xAt lim g Q pc L st h := by
  obtain ⟨a, r, rfl, n, f, ha, hs⟩ := xpr_el hs
  have h2 := nb_eq hc
  subst h2
  intro p l e s m args below meth c D cI cR b N0 S0 H locs ls X C hl
  exact va_alen (ws := [(b.1 + a, xce cI cR b (xia n f))]) (x := (n, .inl f)) X.1 X.2.1 C.1.1 (xWd_one C.2.1 ha) 0 0 rfl rfl rfl hd (hk _ _ _ _ hs p l e s m args below meth c D cI cR b N0 S0 H locs ls X C hl)
theorem xs_aaload (hk : ∀ pc L st h, k pc L st h → xAt lim g Q pc L st h) (hd : decode (sgB g) pc = .ok (.aaload, len)) (hc : xck g (pc, .aaload, len, lk) = true) (hs : xstep lim g k Q pc L st h .aaload len lk) : xAt lim g Q pc L st h := by
  obtain ⟨i, r, rfl, hs⟩ := xpi_el hs
  obtain ⟨a, r, rfl, n, f, j, q, ha, hi, hf, hs⟩ := xpr_el hs
  have h2 := nb_eq hc
  subst h2
  obtain ⟨hi1, hi2⟩ := xix_in hi
  subst hi2
  intro p l e s m args below meth c D cI cR b N0 S0 H locs ls X C hl
  refine va_aldq (ws := [(b.1 + a, xce cI cR b (xra n f))]) X.1 X.2.1 C.1.1 (xWd_one C.2.1 ha) 0 1 rfl rfl hi1 hd ?_
  have e1 : va_rf ((f i.toNatClampNeg).map (fun k => b.1 + k)) = .ref (b.1 + q) := by rw [hf]; rfl
  show W _ _ _ _ _ _ _ _ _ _ _ _ _ _ _ (F0 m (pc + 1) ls (va_rf ((f i.toNatClampNeg).map (fun k => b.1 + k)) :: _))
  rw [e1]
  exact hk _ _ _ _ hs p l e s m args below meth c D cI cR b N0 S0 H locs ls X C hl
theorem xs_iastore (hk : ∀ pc L st h, k pc L st h → xAt lim g Q pc L st h) (hd : decode (sgB g) pc = .ok (.iastore, len)) (hc : xck g (pc, .iastore, len, lk) = true) (hs : xstep lim g k Q pc L st h .iastore len lk) : xAt lim g Q pc L st h := by
  obtain ⟨x, r, rfl, hs⟩ := xpi_el hs
  obtain ⟨i, r, rfl, hs⟩ := xpi_el hs
  obtain ⟨a, r, rfl, n, f, j, ha, hi, hs⟩ := xpr_el hs
  have h2 := nb_eq hc
  subst h2
  obtain ⟨hi1, hi2⟩ := xix_in hi
  subst hi2
  intro p l e s m args below meth c D cI cR b N0 S0 H locs ls X C hl
  refine W.iast X.1 X.2.1 (xWd_one C.2.1 ha 0 _ rfl) ((C.1.1.2 0 _ rfl).1 n (fun j => .int (f j))) (fun q => by cases q) (by show ¬ (i < 0 ∨ (arrV _ _ _).slots.size ≤ _); rw [arrV_size]; exact hi1) rfl rfl hd fun H1 e1 z oq => ?_
  refine hk _ _ _ _ hs p l e s m args below meth c D cI cR b N0 S0 H1 _ ls X (xCx_put C ha.1 z ?_ oq) hl
  show H1[b.1 + a]? = some (vp_cell _ _)
  rw [e1]
  show some ((vp_cell cI (n, .inl f)).setSlot _ _) = some (vp_cell cI (n, .inl (upd f i.toNatClampNeg x)))
  rw [vp_cell_i, vp_cell_i, arrV_store]
  congr 2
  funext q
  by_cases hq : q = i.toNatClampNeg
  · subst hq
    simp [updV, upd]
  · simp [updV, upd, hq]
theorem xs_aastore (hk : ∀ pc L st h, k pc L st h → xAt lim g Q pc L st h) (hd : decode (sgB g) pc = .ok (.aastore, len)) (hc : xck g (pc, .aastore, len, lk) = true) (hs : xstep lim g k Q pc L st h .aastore len lk) : xAt lim g Q pc L st h := by
  obtain ⟨v, r, rfl, hs⟩ := xpr_el hs
  obtain ⟨i, r, rfl, hs⟩ := xpi_el hs
  obtain ⟨a, r, rfl, n, f, j, fs, ha, hi, hv, hs⟩ := xpr_el hs
  have h2 := nb_eq hc
  subst h2
  obtain ⟨hi1, hi2⟩ := xix_in hi
  subst hi2
  intro p l e s m args below meth c D cI cR b N0 S0 H locs ls X C hl
  have hlt : i.toNatClampNeg < n := hi.2.1
  have h0 : ¬ i < 0 := fun q => hi1 (Or.inl q)
  obtain ⟨r', hr', cellV, g1, g2, g3, -⟩ := xWd_one C.2.1 hv 0 _ rfl
  obtain ⟨rc, hrc, hrn⟩ := xrc_ok
  have hcls := (C.1.1.1 xrc rc hrc).2
  obtain ⟨kA, comp, k1, k2, k3, -⟩ := (C.1.1.2 1 _ rfl).2
  rw [hrn] at hcls
  have hcomp : comp = D.1 xrc := Option.some.inj (k3.symm.trans hcls.1)
  subst hcomp
  obtain ⟨kC, hkC, -⟩ := hcls.2
  refine W.aast X.1 X.2.1 (xWd_one C.2.1 ha 0 _ rfl) (fun q h => by cases h) (fun h => by cases h) k1 k2 rfl hkC ⟨h0, by show _ < (arrV _ _ _).slots.size; rw [arrV_size]; exact hlt⟩ g1 (fun q h => by rw [g3] at h; cases h) (by rw [g2]; exact hkC) (by rw [g2]; exact va_assign hcls) rfl rfl hd fun H1 e1 z oq => ?_
  refine hk _ _ _ _ hs p l e s m args below meth c D cI cR b N0 S0 H1 _ ls X (xCx_put C ha.1 z ?_ oq) hl
  show H1[b.1 + a]? = some (vp_cell _ _)
  rw [e1]
  show some ((vp_cell cR (n, .inr (.inr (.inr (.inr (fun j => (f j).map (fun k => b.1 + k))))))).setSlot _ _) = some (vp_cell cR (n, .inr (.inr (.inr (.inr (fun j => (va_up f i.toNatClampNeg (some v) j).map (fun k => b.1 + k)))))))
  rw [vp_cell_q, vp_cell_q, arrV_store]
  congr 2
  funext q
  by_cases hq : q = i.toNatClampNeg
  · subst hq
    simp [updV, va_up, va_rf]
  · simp [updV, va_up, hq]

theorem xnI_nn {j : Nat} (hj : j < 100000) : ¬ nI j < 0 ∧ (nI j).toNatClampNeg = j := ⟨nI_pos (by omega), nI_clamp (by omega)⟩
theorem xs_newarray (hk : ∀ pc L st h, k pc L st h → xAt lim g Q pc L st h) {ty : ArrayType} (hd : decode (sgB g) pc = .ok (.newarray ty, len)) (hc : xck g (pc, .newarray ty, len, lk) = true) (hq : xlk g (pc, .newarray ty, len, lk)) (hs : xstep lim g k Q pc L st h (.newarray ty) len lk) : xAt lim g Q pc L st h := by
  obtain ⟨i, r, rfl, j, rfl, hj, l1, l2, hs2⟩ := xpi_el hs
  clear hs
  have h2 := nb_eq hc
  subst h2
  obtain ⟨rfl, hac⟩ : ty = .int ∧ Cond.arrayClass .int ∈ lw_g := by
    cases ty <;> first | exact hq.elim | exact ⟨rfl, hq⟩
  obtain ⟨hn, hN⟩ := xnI_nn hj
  intro p l e s m args below meth c D cI cR b N0 S0 H locs ls X C hl
  have hts : ∀ w ∈ lw_g, w.before args s = true := fun w hw => X.2.2.2.2.2.2.2 w (List.mem_cons_of_mem _ hw)
  refine va_newaK (atype := .int) X.1 X.2.1 (hts _ hac) (g := F0 m pc ls (.int (nI j) :: r.map (xcv b))) rfl hd rfl hn hN (by show j * 4 ≤ 536870912; omega) ?_ ?_ rfl fun H1 cA e1 z1 o1 hAr hNm => ?_
  · show h.1 - N0 + 1 ≤ lim.1 - N0
    have := C.2.2.2.2.1; omega
  · show h.2.1 - S0 + j ≤ lim.2 - S0
    have := C.2.2.2.2.2.2.1; omega
  · have hcA : cA = cI := by
      have h9 : s.vm.findClass ("[" ++ (FieldType.int).toString) = some cI := (C.1.1.2 0 _ rfl).2
      exact Option.some.inj (hNm.symm.trans h9)
    subst hcA
    have C1 : xCx lim g D cA cR b N0 S0 s (xnew h j (xia j (fun _ => 0))) H1 locs := xCx_new C z1 (by
      show H1[b.1 + h.1]? = some (vp_cell _ _)
      rw [← C.2.1.1]
      exact e1) o1 l1 l2
    have k1 := hk _ _ _ _ hs2 p l e s m args below meth c D cA cR b N0 S0 H1 locs ls X C1 hl
    have := C.2.2.2.2.1
    have := C.2.2.2.2.2.2.1
    refine W.cs (show h.1 - N0 + 1 = h.1 + 1 - N0 by omega) (show h.2.1 - S0 + j = h.2.1 + j - S0 by omega) ?_
    have e2 : H.size = b.1 + h.1 := C.2.1.1
    rw [e2]
    exact k1
theorem xs_anewarray (hk : ∀ pc L st h, k pc L st h → xAt lim g Q pc L st h) {n : Nat} (hd : decode (sgB g) pc = .ok (.anewarray n, len)) (hc : xck g (pc, .anewarray n, len, lk) = true) (hq : xlk g (pc, .anewarray n, len, lk)) (hs : xstep lim g k Q pc L st h (.anewarray n) len lk) : xAt lim g Q pc L st h := by
  obtain ⟨i, r, rfl, j, rfl, hj, l1, l2, hs⟩ := xpi_el hs
  have h2 := nb_eq hc
  subst h2
  have hq : Cond.classLink (sgN g).cls n xrn ∈ lw_g := by
    exact hq
  obtain ⟨hn, hN⟩ := xnI_nn hj
  intro p l e s m args below meth c D cI cR b N0 S0 H locs ls X C hl
  have hts : ∀ w ∈ lw_g, w.before args s = true := fun w hw => X.2.2.2.2.2.2.2 w (List.mem_cons_of_mem _ hw)
  refine W.anew X.1 X.2.1 X.2.2.2.2.2.1 (hts _ hq) (va_AO.use C.1.2) (g := F0 m pc ls (.int (nI j) :: r.map (xcv b))) rfl hd rfl hn (by rw [hN]; omega) ?_ ?_ fun cA kA comp f1 f2 f3 f4 => ?_
  · show h.1 - N0 + 1 ≤ lim.1 - N0
    have := C.2.2.2.2.1; omega
  · show h.2.1 - S0 + (nI j).toNatClampNeg ≤ lim.2 - S0
    rw [hN]
    have := C.2.2.2.2.2.2.1; omega
  · rw [hN]
    have hcA : cA = cR := by
      obtain ⟨_, _, -, -, -, h9⟩ := (C.1.1.2 1 _ rfl).2
      exact Option.some.inj (f1.symm.trans h9)
    subst hcA
    generalize hH1 : H.push ({ cls := cA, slots := Array.replicate j .null, vm := .none } : Cell) = H1
    have z1 : H1.size = H.size + 1 := by rw [← hH1, Array.size_push]
    have e1 : H1[H.size]? = some (arrV cA j (fun _ => .null)) := by rw [← hH1, Array.getElem?_push_size, ← arrV_new]
    have o1 : ∀ q : Nat, q < H.size → H1[q]? = H[q]? := fun q hq => by rw [← hH1, Array.getElem?_push, if_neg (Nat.ne_of_lt hq)]
    have C1 : xCx lim g D cI cA b N0 S0 s (xnew h j (xra j (fun _ => none))) H1 locs := xCx_new C z1 (by
      show H1[b.1 + h.1]? = some (vp_cell _ _)
      rw [← C.2.1.1]
      exact e1) o1 l1 l2
    have k1 := hk _ _ _ _ hs p l e s m args below meth c D cI cA b N0 S0 H1 locs ls X C1 hl
    have := C.2.2.2.2.1
    have := C.2.2.2.2.2.2.1
    refine W.cs (show h.1 - N0 + 1 = h.1 + 1 - N0 by omega) (show h.2.1 - S0 + j = h.2.1 + j - S0 by omega) ?_
    have e2 : H.size = b.1 + h.1 := C.2.1.1
    rw [e2]
    exact k1
theorem xs_new (hk : ∀ pc L st h, k pc L st h → xAt lim g Q pc L st h) {n : Nat} (hd : decode (sgB g) pc = .ok (.new n, len)) (hc : xck g (pc, .new n, len, lk) = true) (hq : xlk g (pc, .new n, len, lk)) (hs : xstep lim g k Q pc L st h (.new n) len lk) : xAt lim g Q pc L st h := by
  obtain ⟨ci, nn, rfl, l1, l2, hs⟩ := xlf_el hs
  have h2 := nb_eq hc
  subst h2
  obtain ⟨rc, hrc, hnn, q1, q2, q3⟩ := hq
  subst hnn
  obtain ⟨C0, T, N⟩ := rc
  obtain ⟨hty, -, -, hdef, hin, hcv⟩ := xcl_in hrc
  intro p l e s m args below meth c D cI cR b N0 S0 H locs ls X C hl
  have hts : ∀ w ∈ lw_g, w.before args s = true := fun w hw => X.2.2.2.2.2.2.2 w (List.mem_cons_of_mem _ hw)
  have hKn := C.1.1.1 ci _ hrc
  refine W.newcK X.1 X.2.1 X.2.2.2.2.2.1 (hts _ q1) (hts _ q2) (hts _ q3) (g := F0 m pc ls (st.map (xcv b))) rfl hd ?_ ?_ hKn.2.1 rfl fun H1 kC hkC e1 z1 o1 => ?_
  · show h.1 - N0 + 1 ≤ lim.1 - N0
    have := C.2.2.2.2.1; omega
  · show h.2.1 - S0 + N ≤ lim.2 - S0
    have l2 : h.2.1 + N ≤ lim.2 := l2
    have := C.2.2.2.2.2.2.1; omega
  · have C1 : xCx lim g D cI cR b N0 S0 s (xnew h N (xob ci (xdef ci))) H1 locs := xCx_new C z1 (by
      refine ⟨_, hrc, ?_⟩
      show t_OB (b.1 + h.1) (D.1 ci) N (D.2 ci) H1 (vp_V ((xdef ci).map (xcv b)))
      rw [hcv, ← C.2.1.1]
      exact (u_born (xfty ci) hts hin hKn hkC e1 hty).to hdef) o1 l1 l2
    have k1 := hk _ _ _ _ hs p l e s m args below meth c D cI cR b N0 S0 H1 locs ls X C1 hl
    have := C.2.2.2.2.1
    have := C.2.2.2.2.2.2.1
    refine W.cs (show h.1 - N0 + 1 = h.1 + 1 - N0 by omega) (show h.2.1 - S0 + N = h.2.1 + N - S0 by omega) ?_
    have e2 : H.size = b.1 + h.1 := C.2.1.1
    rw [e2]
    exact k1
/-! calls -/
theorem xgood {ws : List Cond} (hw : ∀ w ∈ ws, w ∈ lw_g) : GoodIn (xwd g) ws := fun w h => ⟨List.mem_cons_of_mem _ (hw w h), good_of_word (List.all_eq_true.mp lw_all w (hw w h))⟩
theorem xwd_in {c : xSig} (hm : xmc c) : ∀ w ∈ xwd c, w ∈ lw_g := fun w h => (List.mem_cons.mp h).elim (fun e => e ▸ hm.2.1) id
theorem x_after {p : Program} {l : Launch} {e : Env} {R : Room} {s : State} {m : MethodId} {args : Array Value} {below : List Frame} {meth : Method} {c : Code} {H : Heap} {locs : List Loc} {cells slots mc ms : Nat} {Qw : State → Prop} {D : va_G} {cI cR : ClassId} {b : xB} {rest st0 : List Value} {P : Option Value → xHp → Prop} {ls : Array Slot} {a : Array Value} {H0 : Heap}
    (hr : va_Run p l e R s m args below meth c H locs cells slots mc ms (F0 m pc ls st0) rest (xQ D cI cR b P a) (fun q => b.1 ≤ q)) (hS : va_S (fun q => b.1 ≤ q) H0 H locs)
    (kk : ∀ (v : Option Value) (h' : xHp) (H1 : Heap) (locs1 : List Loc), P v h' → xWd D cI cR b h' H1 → va_S (fun q => b.1 ≤ q) H0 H1 locs1 → W p l e R s m args below meth c H1 locs1 (cells + mc) (slots + ms) Qw (F0 m (pc + 3) ls ((v.map (xcv b)).toList ++ rest))) : W p l e R s m args below meth c H locs cells slots Qw (F0 m pc ls st0) := by
  intro T hT X
  obtain ⟨v', st₀, t, T', L, h0, X', hL, e1, e2, ⟨v, h', hP, hv, hw, hkk, hz, hf⟩, st⟩ := hr T hT X
  have hv := Outcome.returned.inj hv
  subst hv
  rw [h0] at hz hf
  obtain ⟨t2, a1, b1⟩ := kk v h' T'.heap (locs ++ L) hP (by rw [e1]; exact hw) ⟨by rw [e1]; exact Nat.le_trans hS.1 hz, fun q h1 h2 => by rw [e1, hf q (Nat.lt_of_lt_of_le h1 hS.1) h2]; exact hS.2.1 q h1 h2, fun q hq => by
      rcases List.mem_append.mp hq with h | h
      · exact hS.2.2 q h
      · exact hL q h⟩ T' rfl X'
  exact ⟨t2, st t2 a1, b1⟩
theorem xcaR_el {c : xSig} {As : List Value} {kf : List Value → xHp → Prop} (hs : xcaR c As h kf) : ∃ P : Option Value → xHp → Prop, SpecR c As h P ∧ ∀ v h', P v h' → kf v.toList h' := by
  unfold xcaR at hs
  split at hs
  next hr =>
    obtain ⟨P, h1, h2⟩ := hs
    refine ⟨P, h1, fun v h' hP => ?_⟩
    have h3 := (h1.2.1 v h' hP).1
    rw [hr] at h3
    cases h3
    exact h2 h' hP
  next hr =>
    obtain ⟨P, h1, h2⟩ := hs
    refine ⟨P, h1, fun v h' hP => ?_⟩
    have h3 := (h1.2.1 v h' hP).1
    rw [hr] at h3
    obtain ⟨x, rfl⟩ := h3
    exact h2 x h' hP
  next t hne hr =>
    obtain ⟨P, h1, h2⟩ := hs
    refine ⟨P, h1, fun v h' hP => ?_⟩
    have h3 := (h1.2.1 v h' hP).1
    rw [hr] at h3
    have h4 : ∃ x, v = some (.int x) := by
      unfold xtym at h3
      split at h3
      next q => cases q
      next q => cases q; exact absurd rfl hne
      · exact h3
    obtain ⟨x, rfl⟩ := h4
    exact h2 x h' hP
theorem xcal_el {lim : Nat × Nat} {c : xSig} {As : List Value} {kf : List Value → xHp → Prop} (hs : xcal lim c As h kf) (l1 : h.1 ≤ lim.1) (l2 : h.2.1 ≤ lim.2) : ∃ mc ms, ∃ P : Option Value → xHp → Prop, SpecN c As h mc ms P ∧ h.1 + mc ≤ lim.1 ∧ h.2.1 + ms ≤ lim.2 ∧ ∀ v h', P v h' → kf v.toList h' := by
  rcases hs with hs | hs
  · obtain ⟨P, h1, h2⟩ := xcaR_el hs
    exact ⟨0, 0, P, h1.toN, l1, l2, h2⟩
  · exact hs
theorem xSc.to {lim : Nat × Nat} {g : xSig} {D : va_G} {cI cR : ClassId} {b : xB} {N0 S0 : Nat} {s U : State} {H : Heap} {locs : List Loc} (C : xCx lim g D cI cR b N0 S0 s h H locs) (hU : U.heap = H) (hvm : s.vm.Alike U.vm) : xSc b U U.heap := by
  obtain ⟨-, -, hS, ⟨hb, h1, L, xs, h2, h3⟩, -⟩ := C
  refine ⟨h1, L, xs, (h2.kept ?_).moved hvm, h3⟩
  rw [hU]
  exact hS.2.1 b.2 (by omega) (Nat.not_le.mpr h1)
theorem x_blind {D : va_G} {cI cR : ClassId} {b : xB} {av : List Value} : FrameBlind (va_Pc av (fun U => xWd D cI cR b h U.heap ∧ xKk D cI cR U ∧ xSc b U U.heap)) := fun a U g mk q => ⟨q.1, q.2.1, xKk.moved (u := U) (U := U.calling g mk a) (Vm.Alike.refl U.vm) q.2.2.1, by
  obtain ⟨h1, L, xs, h2, h3⟩ := q.2.2.2
  exact ⟨h1, L, xs, va_X.moved (u := U) (U := U.calling g mk a) (Vm.Alike.refl U.vm) h2, h3⟩⟩
theorem x_ok8 {r : List Value} {m : MethodId} {ls : Array Slot} {st0 : List Value} (b : xB) (h8 : Nat.ble (xcats r) 8 = true) : 2 * (F0 m pc ls st0).monitorRoom + ((r.map (xcv b)).map fun v => v.category).sum ≤ 8 := by
  rw [xcats_eq]
  have := Nat.le_of_ble_eq_true h8
  show 2 * 0 + _ ≤ 8
  omega
theorem x_map {v : Option Value} {r : List Value} (b : xB) : (v.map (xcv b)).toList ++ r.map (xcv b) = (v.toList ++ r).map (xcv b) := by cases v <;> rfl
theorem xCx_putL {D : va_G} {cI cR : ClassId} {b : xB} {N0 S0 : Nat} {s : State} {H H1 : Heap} {locs L : List Loc} {a : Nat} {e : xE} (C : xCx lim g D cI cR b N0 S0 s h H locs) (ha : a < h.1) (z : H1.size = H.size) (he : va_at D xcl (b.1 + a, xce cI cR b e) H1) (oq : ∀ q : Nat, q ≠ b.1 + a → H1[q]? = H[q]?) (hL : ∀ q ∈ L, q.base = b.1 + a) : xCx lim g D cI cR b N0 S0 s (xset h a e) H1 (locs ++ L) := by
  obtain ⟨hK, hW, hS, r⟩ := C
  refine ⟨hK, xWd_put hW ha z he oq, ⟨by rw [z]; exact hS.1, fun q h1 h2 => ?_, fun q hq => ?_⟩, r⟩
  · rw [oq q (fun e => h2 (by rw [e]; exact Nat.le_add_right b.1 a))]
    exact hS.2.1 q h1 h2
  · rcases List.mem_append.mp hq with h3 | h3
    · exact hS.2.2 q h3
    · show b.1 ≤ q.base
      rw [hL q h3]
      exact Nat.le_add_right b.1 a
theorem x_copy {p : Program} {l : Launch} {e : Env} {R : Room} {s : State} {m : MethodId} {args : Array Value} {below : List Frame} {meth : Method} {c : Code} {H : Heap} {locs : List Loc} {cells slots : Nat} {Qw : State → Prop} {D : va_G} {cI cR : ClassId} {b : xB} {n a a0 n0 n1 jn jd js : Nat} {f f1 : Nat → Int32} {rest : List Value} {ls : Array Slot}
    (X : xFix p s m args meth c g) (hK : va_K D xcl (xtys cI cR) s) (hW : xWd D cI cR b h H) (ha0 : xat h a0 (xia n0 f)) (ha : xat h a (xia n1 f1)) (b1 : js + jn ≤ n0) (b2 : jd + jn ≤ n1) (b3 : n0 < 100000) (b4 : n1 < 100000) (hls : c.maxLocals = ls.size) (hfr : 1 ≤ R.frames) (hlo : (rest.map fun v => v.category).sum + xcpw ≤ R.locals)
    (hq : Cond.methodLink (sgN g).cls n arraycopyName ∈ lw_g ∧ Cond.native arraycopyName ∈ lw_g ∧ Cond.static arraycopyName ∈ lw_g ∧ Cond.initialized "java/lang/System" ∈ lw_g) (hd : decode (sgB g) pc = .ok (.invokestatic n, 3))
    (kk : ∀ (H1 : Heap) (L : List Loc), H1.size = H.size → va_at D xcl (b.1 + a, xce cI cR b (xia n1 (va_cpy f f1 js jd jn))) H1 → (∀ q : Nat, q ≠ b.1 + a → H1[q]? = H[q]?) → (∀ q ∈ L, q.base = b.1 + a) → W p l e R s m args below meth c H1 (locs ++ L) cells slots Qw (F0 m (pc + 3) ls rest)) : W p l e R s m args below meth c H locs cells slots Qw (F0 m pc ls (.int (nI jn) :: .int (nI jd) :: .ref (b.1 + a) :: .int (nI js) :: .ref (b.1 + a0) :: rest)) := by
  have hts : ∀ w ∈ lw_g, w.before args s = true := fun w hw => X.2.2.2.2.2.2.2 w (List.mem_cons_of_mem _ hw)
  have nn : ∀ z : Nat, z < 100000 → (nI z).toInt = (z : Int) := fun z hz => nI_toInt (by omega)
  have cl : ∀ z : Nat, z < 100000 → (nI z).toNatClampNeg = z := fun z hz => nI_clamp (by omega)
  have ps : ∀ z : Nat, z < 100000 → ¬ nI z < 0 := fun z hz => nI_pos (by omega)
  have jn9 : jn < 100000 := by omega
  have jd9 : jd < 100000 := by omega
  have js9 : js < 100000 := by omega
  intro T hT X0
  have hc0 : H[b.1 + a0]? = some (vp_cell cI (n0, .inl f)) := xWd_one hW ha0 0 _ rfl
  have hc1 : H[b.1 + a]? = some (vp_cell cI (n1, .inl f1)) := xWd_one hW ha 0 _ rfl
  obtain ⟨-, k0, hk0, cm0, hkk0⟩ := (hK.2 0 _ rfl).1 n0 (fun j => .int (f j))
  obtain ⟨-, k1, hk1, cm1, hkk1⟩ := (hK.2 0 _ rfl).1 n1 (fun j => .int (f1 j))
  obtain ⟨vm', X', step⟩ := X0.arraycopy X.1 X.2.2.2.2.2.1 (hts _ hq.1) (hts _ hq.2.1) (hts _ hq.2.2.1) (hts _ hq.2.2.2) (src := b.1 + a0) (dst := b.1 + a) (cs := vp_cell cI (n0, .inl f)) (cd := vp_cell cI (n1, .inl f1)) (srcPos := nI js) (destPos := nI jd) (n := nI jn) (by rw [hT]; exact hc0) (by rw [hT]; exact hc1)
    (fun _ h => by cases h) (fun _ h => by cases h) (fun h => by cases h) (fun h => by cases h) hk0 hk1 hkk0 hkk1 (by simp [refKind]) (ps _ js9) (ps _ jd9) (ps _ jn9)
    (by rw [nn _ js9, nn _ jn9]; show ¬ _ > ((arrV cI n0 (fun j => .int (f j))).slots.size : Int); rw [arrV_size]; omega)
    (by rw [nn _ jd9, nn _ jn9]; show ¬ _ > ((arrV cI n1 (fun j => .int (f1 j))).slots.size : Int); rw [arrV_size]; omega)
    (fun vm₁ _ i hi => by
      have e0 : (vp_cell cI (n0, .inl f)).slots.getD ((nI js).toNatClampNeg + i) .null = .int (f (js + i)) := by
        rw [cl _ jn9] at hi
        show (arrV cI n0 (fun j => .int (f j))).slots.getD _ _ = _
        rw [cl _ js9, Array.getD_eq_getD_getElem?, arrV_read _ _ (by omega)]
        rfl
      refine ⟨?_, ?_⟩
      · rw [e0]
        rfl
      · rw [e0]
        exact trivial)
    (g := F0 m pc ls (.int (nI jn) :: .int (nI jd) :: .ref (b.1 + a) :: .int (nI js) :: .ref (b.1 + a0) :: rest)) rfl (by rw [hls]) (rest := rest) rfl (by rw [X.2.1]; exact hd) hfr (by show 2 * 0 + _ + xcpw ≤ _; omega)
  have e1 : copied (vp_cell cI (n0, .inl f)) (vp_cell cI (n1, .inl f1)) (nI js) (nI jd) (nI jn) = vp_cell cI (n1, .inl (va_cpy f f1 js jd jn)) := by
    have e9 := va_copied (fun z => .int z) cI cI (n0 := n0) (n1 := n1) (sp := js) (dp := jd) (n := jn) f f1 b1
    unfold copied
    rw [cl _ jn9, cl _ jd9, cl _ js9]
    exact e9
  rw [e1] at X' step
  have hl : b.1 + a < H.size := (Array.getElem?_eq_some_iff.mp hc1).1
  have hheap : ((T.setVm vm').setCell (b.1 + a) (vp_cell cI (n1, .inl (va_cpy f f1 js jd jn)))).heap = H.setIfInBounds (b.1 + a) (vp_cell cI (n1, .inl (va_cpy f f1 js jd jn))) := by rw [← hT]; rfl
  obtain ⟨t, a1, b1⟩ := kk (H.setIfInBounds (b.1 + a) (vp_cell cI (n1, .inl (va_cpy f f1 js jd jn)))) _ (by simp) (show (H.setIfInBounds (b.1 + a) _)[b.1 + a]? = some _ by simp [Array.getElem?_setIfInBounds, hl]) (fun q hq => by simp [Array.getElem?_setIfInBounds, Ne.symm hq]) (fun q hq => by
    obtain ⟨z, -, hz⟩ := List.mem_map.mp hq
    rw [← hz]) _ hheap X'
  exact ⟨t, step t a1, b1⟩
theorem xs_invokestatic (hk : ∀ pc L st h, k pc L st h → xAt lim g Q pc L st h) {n : Nat} (hd : decode (sgB g) pc = .ok (.invokestatic n, len)) (hc : xck g (pc, .invokestatic n, len, lk) = true) (hq : xlk g (pc, .invokestatic n, len, lk)) (hs : xstep lim g k Q pc L st h (.invokestatic n) len lk) : xAt lim g Q pc L st h := by
  replace hs : xist lim k pc len L st h lk := hs
  unfold xist at hs
  split at hs
  next c0 =>
    split at hs
    next As r hpop =>
      obtain ⟨h8, hs⟩ := bif_el hs
      obtain ⟨h1, h2⟩ := and_el hc
      have h2 := nb_eq h2
      subst h2
      obtain ⟨hfr, hlo⟩ := and_el h1
      have hfr := Nat.le_of_ble_eq_true hfr
      have hlo := Nat.le_of_ble_eq_true hlo
      obtain ⟨hlink, hmc, hstat⟩ := hq
      obtain ⟨B, hB, hst, hlen⟩ := xpop_el hpop
      rw [List.append_nil] at hB
      subst hB
      intro p l e s m args below meth c D cI cR b N0 S0 H locs ls X C hl
      obtain ⟨mc, ms, P, hsp, l1, l2, hs⟩ := xcal_el hs C.2.2.2.2.2.1 C.2.2.2.2.2.2.2
      obtain ⟨-, hPt, hM⟩ := hsp
      have hM := hM l D cI cR b
      have hts := X.2.2.2.2.2.2.2
      refine x_after (va_runS (As := As.map (xcv b)) (rest := r.map (xcv b)) ⟨X.1, X.2.1, X.2.2.2.2.1, X.2.2.2.2.2.1, hts⟩ hM (va_cwS (sgP c0) hts (xgood (fun w hw => ?_)) rfl rfl rfl ⟨hmc.2.2.1, hmc.2.2.2.1, hmc.2.2.2.2⟩ ⟨hfr, hlo⟩) ⟨x_blind, fun U hU hW => ⟨rfl, by rw [hU]; exact C.2.1, xKk.moved hW.alike C.1, xSc.to C hU hW.alike⟩⟩ rfl (by rw [List.length_map]; exact hlen) hl.1 (by rw [hst]; simp) (x_ok8 b h8) hd ?_) C.2.2.1 fun v h' H1 locs1 hP hW1 hS1 => ?_
      · rcases List.mem_append.mp hw with hw | hw
        · rcases List.mem_cons.mp hw with hw | hw
          · rw [hw]; exact hlink
          · rcases List.mem_cons.mp hw with hw | hw
            · rw [hw]; exact hstat
            · rw [List.mem_singleton.mp hw]; exact hmc.1
        · exact xwd_in hmc w hw
      · have := C.2.2.2.2
        show h.1 - N0 + mc ≤ lim.1 - N0 ∧ h.2.1 - S0 + ms ≤ lim.2 - S0
        omega
      · obtain ⟨-, g3, g4⟩ := hPt v h' hP
        rw [x_map]
        have := C.2.2.2.2
        refine W.cs (show h.1 - N0 + mc = h'.1 - N0 by omega) (show h.2.1 - S0 + ms = h'.2.1 - S0 by omega) ?_
        exact hk _ _ _ _ (hs v h' hP) p l e s m args below meth c D cI cR b N0 S0 H1 locs1 ls X ⟨C.1, hW1, hS1, C.2.2.2.1, by omega⟩ hl
    · exact hs.elim
  next q =>
    obtain ⟨n9, r1, e1, hs1⟩ := xpi_el hs
    obtain ⟨dp, r2, e2, hs2⟩ := xpi_el hs1
    obtain ⟨a, r3, e3, hs3⟩ := xpr_el hs2
    obtain ⟨sp, r4, e4, hs4⟩ := xpi_el hs3
    obtain ⟨a0, r, e5, hs5⟩ := xpr_el hs4
    clear hs hs1 hs2 hs3 hs4
    subst e1 e2 e3 e4 e5
    obtain ⟨h8, n0, f, n1, f1, jn, jd, js, ha0, ha, rfl, rfl, rfl, b1, b2, b3, b4, hs⟩ := bif_el hs5
    clear hs5
    obtain ⟨h1, h2⟩ := and_el hc
    have h2 := nb_eq h2
    subst h2
    obtain ⟨hfr, hlo⟩ := and_el h1
    have hfr := Nat.le_of_ble_eq_true hfr
    have hlo := Nat.le_of_ble_eq_true hlo
    intro p l e s m args below meth c D cI cR b N0 S0 H locs ls X C hl0
    have h9 := Nat.le_of_ble_eq_true h8
    exact x_copy X C.1.1 C.2.1 ha0 ha b1 b2 b3 b4 (X.2.2.2.2.1.trans hl0.1.symm) hfr (by rw [xcats_eq]; exact Nat.le_trans (Nat.add_le_add_right h9 _) hlo) hq hd (fun H1 L9 z he oq hL => hk _ _ _ _ hs p l e s m args below meth c D cI cR b N0 S0 H1 _ ls X (xCx_putL C ha.1 z he oq hL) hl0)
  next ps =>
    obtain ⟨y, r1, e1, hs1⟩ := xpi_el hs
    obtain ⟨x, r, e2, hs2⟩ := xpi_el hs1
    clear hs hs1
    subst e1 e2
    obtain ⟨h8, hs⟩ := bif_el hs2
    clear hs2
    obtain ⟨h1, h2⟩ := and_el hc
    have h2 := nb_eq h2
    subst h2
    obtain ⟨hfr, hlo⟩ := and_el h1
    have hfr := Nat.le_of_ble_eq_true hfr
    have hlo := Nat.le_of_ble_eq_true hlo
    obtain ⟨q1, q2, q3, q4⟩ := hq
    intro p l e s m args below meth c D cI cR b N0 S0 H locs ls X C hl
    have hts : ∀ w ∈ lw_g, w.before args s = true := fun w hw => X.2.2.2.2.2.2.2 w (List.mem_cons_of_mem _ hw)
    have h9 := Nat.le_of_ble_eq_true h8
    have c5 := C.2.2.2.2
    exact va_mmax X.1 X.2.1 (X.2.2.2.2.1.trans hl.1.symm) X.2.2.2.2.2.1 (hts _ q1) (hts _ q2) (hts _ q3) (hts _ q4) hfr (by rw [xcats_eq]; exact Nat.le_trans (Nat.add_le_add_right h9 13) (Nat.le_trans (by decide) hlo)) (by show h.1 - N0 ≤ lim.1 - N0; omega) (by show h.2.1 - S0 ≤ lim.2 - S0; omega) hd (hk _ _ _ _ hs p l e s m args below meth c D cI cR b N0 S0 H locs ls X C hl)
  next ps =>
    obtain ⟨y, r1, e1, hs1⟩ := xpi_el hs
    obtain ⟨x, r, e2, hs2⟩ := xpi_el hs1
    clear hs hs1
    subst e1 e2
    obtain ⟨h8, hs⟩ := bif_el hs2
    clear hs2
    obtain ⟨h1, h2⟩ := and_el hc
    have h2 := nb_eq h2
    subst h2
    obtain ⟨hfr, hlo⟩ := and_el h1
    have hfr := Nat.le_of_ble_eq_true hfr
    have hlo := Nat.le_of_ble_eq_true hlo
    obtain ⟨q1, q2, q3, q4⟩ := hq
    intro p l e s m args below meth c D cI cR b N0 S0 H locs ls X C hl
    have hts : ∀ w ∈ lw_g, w.before args s = true := fun w hw => X.2.2.2.2.2.2.2 w (List.mem_cons_of_mem _ hw)
    have h9 := Nat.le_of_ble_eq_true h8
    have c5 := C.2.2.2.2
    exact va_mmin X.1 X.2.1 (X.2.2.2.2.1.trans hl.1.symm) X.2.2.2.2.2.1 (hts _ q1) (hts _ q2) (hts _ q3) (hts _ q4) hfr (by rw [xcats_eq]; exact Nat.le_trans (Nat.add_le_add_right h9 13) (Nat.le_trans (by decide) hlo)) (by show h.1 - N0 ≤ lim.1 - N0; omega) (by show h.2.1 - S0 ≤ lim.2 - S0; omega) hd (hk _ _ _ _ hs p l e s m args below meth c D cI cR b N0 S0 H locs ls X C hl)
  next ps =>
    obtain ⟨x, r, e1, hs1⟩ := xpi_el hs
    clear hs
    subst e1
    obtain ⟨h8, hs⟩ := bif_el hs1
    clear hs1
    obtain ⟨h1, h2⟩ := and_el hc
    have h2 := nb_eq h2
    subst h2
    obtain ⟨hfr, hlo⟩ := and_el h1
    have hfr := Nat.le_of_ble_eq_true hfr
    have hlo := Nat.le_of_ble_eq_true hlo
    obtain ⟨q1, q2, q3, q4⟩ := hq
    intro p l e s m args below meth c D cI cR b N0 S0 H locs ls X C hl
    have hts : ∀ w ∈ lw_g, w.before args s = true := fun w hw => X.2.2.2.2.2.2.2 w (List.mem_cons_of_mem _ hw)
    have h9 := Nat.le_of_ble_eq_true h8
    have c5 := C.2.2.2.2
    exact va_mabs X.1 X.2.1 (X.2.2.2.2.1.trans hl.1.symm) X.2.2.2.2.2.1 (hts _ q1) (hts _ q2) (hts _ q3) (hts _ q4) hfr (by rw [xcats_eq]; exact Nat.le_trans (Nat.add_le_add_right h9 13) (Nat.le_trans (by decide) hlo)) (by show h.1 - N0 ≤ lim.1 - N0; omega) (by show h.2.1 - S0 ≤ lim.2 - S0; omega) hd (hk _ _ _ _ hs p l e s m args below meth c D cI cR b N0 S0 H locs ls X C hl)
  · exact hs.elim
theorem xs_invokevirtual (hk : ∀ pc L st h, k pc L st h → xAt lim g Q pc L st h) {n : Nat} (hd : decode (sgB g) pc = .ok (.invokevirtual n, len)) (hc : xck g (pc, .invokevirtual n, len, lk) = true) (hq : xlk g (pc, .invokevirtual n, len, lk)) (hs : xstep lim g k Q pc L st h (.invokevirtual n) len lk) : xAt lim g Q pc L st h := by
  replace hs : xivt lim k pc len L st h lk := hs
  unfold xivt at hs
  split at hs
  next c0 =>
    split at hs
    next As r hpop =>
      obtain ⟨ra, r, rfl, hs⟩ := xpr_el hs
      obtain ⟨h8, hs⟩ := bif_el hs
      obtain ⟨h1, h2⟩ := and_el hc
      have h2 := nb_eq h2
      subst h2
      obtain ⟨hfr, hlo⟩ := and_el h1
      have hfr := Nat.le_of_ble_eq_true hfr
      have hlo := Nat.le_of_ble_eq_true hlo
      obtain ⟨hlink, hmc, hinst, hsel, ci, rc, hci, hrc, hcn⟩ := hq
      obtain ⟨B, hB, hst, hlen⟩ := xpop_el hpop
      rw [List.append_nil] at hB
      subst hB
      intro p l e s m args below meth c D cI cR b N0 S0 H locs ls X C hl
      obtain ⟨mc, ms, P, hsp, l1, l2, hs⟩ := xcal_el hs C.2.2.2.2.2.1 C.2.2.2.2.2.2.2
      obtain ⟨hrv, hPt, hM⟩ := hsp
      obtain ⟨ra', fs, As', hra, hat⟩ := hrv ci hci
      cases hra
      have hM := hM l D cI cR b
      have hts := X.2.2.2.2.2.2.2
      have hrec := va_recv (q0 := 0) C.1.1 (xWd_one C.2.1 hat) hrc rfl
      rw [hcn] at hrec
      refine x_after (va_runV (C := (sgN c0).cls) (b := b.1 + ra) (As := As.map (xcv b)) (rest := r.map (xcv b)) ⟨X.1, X.2.1, X.2.2.2.2.1, X.2.2.2.2.2.1, hts⟩ hM (cwV (sgP c0) hts (xgood (fun w hw => ?_)) rfl rfl rfl ⟨rfl, hmc.2.2.1, hmc.2.2.2.1, hmc.2.2.2.2⟩ ⟨hfr, hlo⟩) ⟨x_blind, hrec, fun U hU hW => ⟨rfl, by rw [hU]; exact C.2.1, xKk.moved hW.alike C.1, xSc.to C hU hW.alike⟩⟩ rfl (by rw [List.length_map]; exact hlen) hl.1 (by rw [hst]; simp [xcv]) (x_ok8 b h8) hd ?_) C.2.2.1 fun v h' H1 locs1 hP hW1 hS1 => ?_
      · rcases List.mem_append.mp hw with hw | hw
        · rcases List.mem_cons.mp hw with hw | hw
          · rw [hw]; exact hlink
          · rcases List.mem_cons.mp hw with hw | hw
            · rw [hw]; exact hinst
            · rcases List.mem_cons.mp hw with hw | hw
              · rw [hw]; exact hsel
              · rw [List.mem_singleton.mp hw]; exact hmc.1
        · exact xwd_in hmc w hw
      · have := C.2.2.2.2
        show h.1 - N0 + mc ≤ lim.1 - N0 ∧ h.2.1 - S0 + ms ≤ lim.2 - S0
        omega
      · obtain ⟨-, g3, g4⟩ := hPt v h' hP
        rw [x_map]
        have := C.2.2.2.2
        refine W.cs (show h.1 - N0 + mc = h'.1 - N0 by omega) (show h.2.1 - S0 + ms = h'.2.1 - S0 by omega) ?_
        exact hk _ _ _ _ (hs v h' hP) p l e s m args below meth c D cI cR b N0 S0 H1 locs1 ls X ⟨C.1, hW1, hS1, C.2.2.2.1, by omega⟩ hl
    · exact hs.elim
  · exact hs.elim
theorem xs_invokespecial (hk : ∀ pc L st h, k pc L st h → xAt lim g Q pc L st h) {n : Nat} (hd : decode (sgB g) pc = .ok (.invokespecial n, len)) (hc : xck g (pc, .invokespecial n, len, lk) = true) (hq : xlk g (pc, .invokespecial n, len, lk)) (hs : xstep lim g k Q pc L st h (.invokespecial n) len lk) : xAt lim g Q pc L st h := by
  replace hs : xisp lim k pc len L st h lk := hs
  unfold xisp at hs
  split at hs
  next c0 =>
    split at hs
    next As r hpop =>
      obtain ⟨ra, r, rfl, hs⟩ := xpr_el hs
      obtain ⟨h8, mc, ms, P, ⟨-, hsz, hM⟩, l1, l2, hs⟩ := bif_el hs
      obtain ⟨h1, h2⟩ := and_el hc
      have h2 := nb_eq h2
      subst h2
      obtain ⟨hfr, hlo⟩ := and_el h1
      have hfr := Nat.le_of_ble_eq_true hfr
      have hlo := Nat.le_of_ble_eq_true hlo
      obtain ⟨hlink, hmc, hinst, hnm, hret⟩ := hq
      obtain ⟨B, hB, hst, hlen⟩ := xpop_el hpop
      rw [List.append_nil] at hB
      subst hB
      intro p l e s m args below meth c D cI cR b N0 S0 H locs ls X C hl
      have hM := hM l D cI cR b
      have hts := X.2.2.2.2.2.2.2
      have hxw : xwd c0 = Cond.code (sgN c0) (sgB c0) (sgL c0) none :: lw_g := by unfold xwd; rw [hret]
      refine x_after (va_runI (b := b.1 + ra) (As := As.map (xcv b)) (rest := r.map (xcv b)) ⟨X.1, X.2.1, X.2.2.2.2.1, X.2.2.2.2.2.1, hts⟩ hM (cwI (sgP c0) hts (xgood (xwd_in hmc)) hxw rfl rfl (hts _ (List.mem_cons_of_mem _ hmc.1)) (hts _ (List.mem_cons_of_mem _ hlink)) (hts _ (List.mem_cons_of_mem _ hinst)) hnm ⟨hmc.2.2.1, hmc.2.2.2.1, hmc.2.2.2.2⟩ ⟨hfr, hlo⟩) ⟨x_blind, fun U hU hW => ⟨rfl, by rw [hU]; exact C.2.1, xKk.moved hW.alike C.1, xSc.to C hU hW.alike⟩⟩ rfl (by rw [List.length_map]; exact hlen) hl.1 (by rw [hst]; simp [xcv]) (x_ok8 b h8) hd ?_) C.2.2.1 fun v2 h2 H1 locs1 hP hW1 hS1 => ?_
      · have := C.2.2.2.2
        show h.1 - N0 + mc ≤ lim.1 - N0 ∧ h.2.1 - S0 + ms ≤ lim.2 - S0
        omega
      · obtain ⟨rfl, z1, z2⟩ := hsz _ _ hP
        have := C.2.2.2.2
        refine W.cs (show h.1 - N0 + mc = h2.1 - N0 by omega) (show h.2.1 - S0 + ms = h2.2.1 - S0 by omega) ?_
        exact hk _ _ _ _ (hs _ hP) p l e s m args below meth c D cI cR b N0 S0 H1 locs1 ls X ⟨C.1, hW1, hS1, C.2.2.2.1, by omega⟩ hl
    · exact hs.elim
  next q =>
    obtain ⟨ra, r, rfl, hs⟩ := xpr_el hs
    obtain ⟨h8, hs⟩ := bif_el hs
    obtain ⟨h1, h2⟩ := and_el hc
    have h2 := nb_eq h2
    subst h2
    obtain ⟨hfr, hlo⟩ := and_el h1
    have hfr := Nat.le_of_ble_eq_true hfr
    have hlo := Nat.le_of_ble_eq_true hlo
    obtain ⟨q1, q2, q3⟩ := hq
    intro p l e s m args below meth c D cI cR b N0 S0 H locs ls X C hl
    have hts : ∀ w ∈ lw_g, w.before args s = true := fun w hw => X.2.2.2.2.2.2.2 w (List.mem_cons_of_mem _ hw)
    have h9 := x_ok8 (pc := pc) (m := m) (ls := ls) (st0 := .ref (b.1 + ra) :: r.map (xcv b)) b h8
    exact W.objInit X.1 X.2.1 X.2.2.2.2.2.1 (hts _ q1) (hts _ q2) (hts _ q3) (g := F0 m pc ls (.ref (b.1 + ra) :: r.map (xcv b))) rfl (hl.1.trans X.2.2.2.2.1.symm) rfl hd hfr (Nat.le_trans (Nat.add_le_add_right h9 12) hlo) (hk _ _ _ _ hs p l e s m args below meth c D cI cR b N0 S0 H locs ls X C hl)
  · exact hs.elim
/-! answers -/
theorem xnil_el {st : List Value} {p : Prop} (h : xnil st p) : st = [] ∧ p := by
  unfold xnil at h
  split at h
  · exact ⟨rfl, h⟩
  · exact h.elim
theorem x_end {D : va_G} {cI cR : ClassId} {b : xB} {N0 S0 : Nat} {s t : State} {H : Heap} {locs : List Loc} {v : Option Value} {args : Array Value} (C : xCx lim g D cI cR b N0 S0 s h H locs) (hQ : Q v h) (ht : t.heap = H) (hW : s.WarmedH t.vm) : xQ D cI cR b Q args s (.returned (v.map (xcv b))) t :=
  ⟨v, h, hQ, rfl, by rw [ht]; exact C.2.1, xKk.moved hW.alike C.1, C.2.2.1.F ht⟩
theorem xs_ireturn (hd : decode (sgB g) pc = .ok (.ireturn, len)) (hc : xck g (pc, .ireturn, len, lk) = true) (hs : xstep lim g k Q pc L st h .ireturn len lk) : xAt lim g Q pc L st h := by
  obtain ⟨x, r, rfl, hs⟩ := xpi_el hs
  obtain ⟨rfl, hs⟩ := xnil_el hs
  have h2 := nb_eq hc
  subst h2
  intro p l e s m args below meth c D cI cR b N0 S0 H locs ls X C hl
  have c5 := C.2.2.2.2
  refine W.widen (k := lim.1 - N0) (n := lim.2 - S0) (by omega) (by omega) ?_
  replace hs : xrt g x (Q (some (.int x)) h) := hs
  unfold xrt at hs
  split at hs
  next hr => exact W.iret (v := x) X.1 X.2.1 (X.2.2.1.trans hr) (fun t ht hW => x_end C hs ht hW) C.2.2.1.2.2 hd X.2.2.2.1
  next hr =>
    refine W.zret (v := x) X.1 X.2.1 (X.2.2.1.trans hr) ?_ (fun t ht hW => x_end C hs.2 ht hW) C.2.2.1.2.2 hd X.2.2.2.1
    rcases hs.1 with h0 | h0 <;> subst h0 <;> decide
  · exact hs.elim
theorem xs_lreturn (hd : decode (sgB g) pc = .ok (.lreturn, len)) (hc : xck g (pc, .lreturn, len, lk) = true) (hs : xstep lim g k Q pc L st h .lreturn len lk) : xAt lim g Q pc L st h := by
  obtain ⟨x, r, rfl, hs⟩ := xpl_el hs
  obtain ⟨rfl, hs⟩ := xnil_el hs
  obtain ⟨hr, h2⟩ := and_el hc
  have hr : sgR g = some .long := of_decide_eq_true hr
  have h2 := nb_eq h2
  subst h2
  intro p l e s m args below meth c D cI cR b N0 S0 H locs ls X C hl
  have c5 := C.2.2.2.2
  refine W.widen (k := lim.1 - N0) (n := lim.2 - S0) (by omega) (by omega) ?_
  exact W.lret (v := x) X.1 X.2.1 (X.2.2.1.trans hr) (fun t ht hW => x_end C hs ht hW) C.2.2.1.2.2 hd X.2.2.2.1
theorem xs_return (hd : decode (sgB g) pc = .ok (.return_, len)) (hc : xck g (pc, .return_, len, lk) = true) (hs : xstep lim g k Q pc L st h .return_ len lk) : xAt lim g Q pc L st h := by
  obtain ⟨rfl, hs⟩ := xnil_el hs
  obtain ⟨hr, h2⟩ := and_el hc
  have hr : sgR g = none := of_decide_eq_true hr
  have h2 := nb_eq h2
  subst h2
  intro p l e s m args below meth c D cI cR b N0 S0 H locs ls X C hl
  have c5 := C.2.2.2.2
  refine W.widen (k := lim.1 - N0) (n := lim.2 - S0) (by omega) (by omega) ?_
  exact W.vret X.1 X.2.1 (X.2.2.1.trans hr) (fun t ht hW => x_end C hs ht hW) C.2.2.1.2.2 hd X.2.2.2.1

theorem xstep_sound (hk : ∀ pc L st h, k pc L st h → xAt lim g Q pc L st h) {i : Instr} (hd : decode (sgB g) pc = .ok (i, len)) (hc : xck g (pc, i, len, lk) = true) (hq : xlk g (pc, i, len, lk)) (hs : xstep lim g k Q pc L st h i len lk) : xAt lim g Q pc L st h := by
  cases i with
  | iconst n => exact xs_iconst hk hd hc hs
  | bipush n => exact xs_bipush hk hd hc hs
  | sipush n => exact xs_sipush hk hd hc hs
  | iload n => exact xs_iload hk hd hc hs
  | lload n => exact xs_lload hk hd hc hs
  | aload n => exact xs_aload hk hd hc hs
  | iload_n n => exact xs_iload_n hk hd hc hs
  | lload_n n => exact xs_lload_n hk hd hc hs
  | aload_n n => exact xs_aload_n hk hd hc hs
  | istore n => exact xs_istore hk hd hc hs
  | lstore n => exact xs_lstore hk hd hc hs
  | astore n => exact xs_astore hk hd hc hs
  | istore_n n => exact xs_istore_n hk hd hc hs
  | lstore_n n => exact xs_lstore_n hk hd hc hs
  | astore_n n => exact xs_astore_n hk hd hc hs
  | iinc n n2 => exact xs_iinc hk hd hc hs
  | iadd  => exact xs_iadd hk hd hc hs
  | isub  => exact xs_isub hk hd hc hs
  | imul  => exact xs_imul hk hd hc hs
  | iand  => exact xs_iand hk hd hc hs
  | ior  => exact xs_ior hk hd hc hs
  | ixor  => exact xs_ixor hk hd hc hs
  | ishl  => exact xs_ishl hk hd hc hs
  | ishr  => exact xs_ishr hk hd hc hs
  | iushr  => exact xs_iushr hk hd hc hs
  | idiv  => exact xs_idiv hk hd hc hs
  | irem  => exact xs_irem hk hd hc hs
  | ineg  => exact xs_ineg hk hd hc hs
  | ladd  => exact xs_ladd hk hd hc hs
  | lmul  => exact xs_lmul hk hd hc hs
  | i2l  => exact xs_i2l hk hd hc hs
  | dup  => exact xs_dup hk hd hc hs
  | dup2  => exact xs_dup2 hk hd hc hs
  | pop  => exact xs_pop hk hd hc hs
  | goto n => exact xs_goto hk hd hc hs
  | tableswitch n1 n2 n3 n4 => exact xs_tableswitch hk hd hc hs
  | iaload  => exact xs_iaload hk hd hc hs
  | iastore  => exact xs_iastore hk hd hc hs
  | aaload  => exact xs_aaload hk hd hc hs
  | aastore  => exact xs_aastore hk hd hc hs
  | arraylength  => exact xs_arraylength hk hd hc hs
  | ldc n => exact xs_ldc hk hd hc hq hs
  | ldc_w n => exact xs_ldc_w hk hd hc hq hs
  | ldc2_w n => exact xs_ldc2_w hk hd hc hq hs
  | getfield n => exact xs_getfield hk hd hc hq hs
  | putfield n => exact xs_putfield hk hd hc hq hs
  | newarray n => exact xs_newarray hk hd hc hq hs
  | anewarray n => exact xs_anewarray hk hd hc hq hs
  | new n => exact xs_new hk hd hc hq hs
  | invokestatic n => exact xs_invokestatic hk hd hc hq hs
  | invokevirtual n => exact xs_invokevirtual hk hd hc hq hs
  | invokespecial n => exact xs_invokespecial hk hd hc hq hs
  | ireturn => exact xs_ireturn hd hc hs
  | lreturn => exact xs_lreturn hd hc hs
  | return_ => exact xs_return hd hc hs
  | ifCond cn n =>
    cases cn with
    | eq => exact xs_ifCond_eq hk hd hc hs
    | ne => exact xs_ifCond_ne hk hd hc hs
    | lt => exact xs_ifCond_lt hk hd hc hs
    | ge => exact xs_ifCond_ge hk hd hc hs
    | gt => exact xs_ifCond_gt hk hd hc hs
    | le => exact xs_ifCond_le hk hd hc hs
  | if_icmp cn n =>
    cases cn with
    | eq => exact xs_if_icmp_eq hk hd hc hs
    | ne => exact xs_if_icmp_ne hk hd hc hs
    | lt => exact xs_if_icmp_lt hk hd hc hs
    | ge => exact xs_if_icmp_ge hk hd hc hs
    | gt => exact xs_if_icmp_gt hk hd hc hs
    | le => exact xs_if_icmp_le hk hd hc hs
  | _ => exact False.elim hs
end XS
/-! SOUNDNESS of the generator, and a method's contract out of it -/
theorem wp_sound {lim : Nat × Nat} {g : xSig} {cd : xCd} {cut : List (Nat × List Nat)} {K : xK} {Q : Option Value → xHp → Prop} (ok : xOK g cd) (hK : ∀ pc L st h, K pc L st h → xAt lim g Q pc L st h) : ∀ (n pc : Nat) (L : xLo) (st : List Value) (h : xHp), wp lim g cd cut K Q n pc L st h → xAt lim g Q pc L st h := by
  intro n
  induction n with
  | zero => intro pc L st h hs; exact hs.elim
  | succ n ih =>
    intro pc L st h hs
    replace hs : xgo (xfind cd pc) (xstep lim g (xnext cut K (wp lim g cd cut K Q n)) Q pc L st h) := hs
    obtain ⟨i, len, lk, hf, hs⟩ := xgo_el hs
    have hm := xfind_mem hf
    have h1 : decode (sgB g) pc = .ok (i, len) := ok.1 (pc, i, len, lk) hm
    have h2 : xck g (pc, i, len, lk) = true := List.all_eq_true.mp ok.2.1 (pc, i, len, lk) hm
    have h3 : xlk g (pc, i, len, lk) := ok.2.2 (pc, i, len, lk) hm
    generalize hkk : xnext cut K (wp lim g cd cut K Q n) = kx at hs
    have hkx : ∀ pc L st h, kx pc L st h → xAt lim g Q pc L st h := by
      intro pc' L' st' h' hk
      rw [← hkk] at hk
      rcases xnext_el hk with hk | ⟨ks, hk⟩
      · exact ih _ _ _ _ hk
      · exact xAt_sub (hK _ _ _ _ hk) xsel_mem
    exact xstep_sound hkx h1 h2 h3 hs
theorem lg_sl_cv (b : xB) : ∀ vs : List Value, (lg_sl (vs.map (xcv b))).length = (lg_sl vs).length
  | [] => rfl
  | v :: vs => by
    have ih := lg_sl_cv b vs
    unfold lg_sl at ih ⊢
    simp only [List.map_cons, List.flatMap_cons, List.length_append, ih, xcv_cat]
    by_cases hc : v.category = 2 <;> simp [hc]
theorem lv_args_cv (b : xB) : ∀ (vs : List Value) (i : Nat), lv_args i (vs.map (xcv b)) = xcL b (lv_args i vs)
  | [], _ => rfl
  | v :: vs, i => by
    have ih := lv_args_cv b vs
    simp only [List.map_cons, lv_args, xcL, xcv_cat] at ih ⊢
    rw [ih]
theorem Met_of {g : xSig} {args : List Value} {h : xHp} {mc ms : Nat} {P : Option Value → xHp → Prop} (hp : plainName (sgN g).cls = true) (hl : (lg_sl args).length ≤ sgL g)
    (hA : xAt (h.1 + mc, h.2.1 + ms) g P 0 (lv_args 0 args) [] h) (l : Launch) (D : va_G) (cI cR : ClassId) (b : xB) :
    Met l (sgN g) (xwd g) (xrm g mc ms) (va_Pc (args.map (xcv b)) (fun U => xWd D cI cR b h U.heap ∧ xKk D cI cR U ∧ xSc b U U.heap)) (xQ D cI cR b P) mc ms (fun q => b.1 ≤ q) := by
  refine Met.ofW (cc := sgB g) (maxL := sgL g) (ret := sgR g) hp rfl ?_
  intro p e s m as below meth c s₁ B hml hv
  obtain ⟨rfl, hW, hK, hSc⟩ := hv
  have hts := atoms_spec (ws := xwd g) B.pre
  rw [lg_entry_eq]
  have hl2 := lv_entry (args.map (xcv b)) (n := sgL g) (by rw [lg_sl_cv]; exact hl)
  rw [lv_args_cv] at hl2
  have hsz : s.heap.size = b.1 + h.1 := hW.1
  have key := hA p l e s m _ below meth c D cI cR b h.1 h.2.1 s.heap [] _ ⟨B.exec, B.bytes, B.returns, B.notSynchronized, hml, findClass_of_methodNamed B.named, (name_of_methodNamed B.named B.method).1, hts⟩ ⟨hK, hW, va_S.rf, ⟨hsz.symm, hSc⟩, Nat.le_refl _, Nat.le_add_right _ _, Nat.le_refl _, Nat.le_add_right _ _⟩ hl2
  simp only [Nat.sub_self, Nat.add_sub_cancel_left] at key
  exact key
theorem SpecA.of {g : xSig} {args : List Value} {h : xHp} (mc ms : Nat) {P : Option Value → xHp → Prop} (hp : plainName (sgN g).cls = true) (hl : (lg_sl args).length ≤ sgL g) (hr : xrecv g args h) (ht : ∀ v h', P v h' → v = none ∧ h'.1 = h.1 + mc ∧ h'.2.1 = h.2.1 + ms)
    (hA : ∀ Q : Option Value → xHp → Prop, (∀ v h', P v h' → Q v h') → xAt (h.1 + mc, h.2.1 + ms) g Q 0 (lv_args 0 args) [] h) : SpecA g args h mc ms P :=
  ⟨hr, ht, Met_of hp hl (hA P (fun _ _ z => z))⟩
theorem SpecR.of {g : xSig} {args : List Value} {h : xHp} {P : Option Value → xHp → Prop} (hp : plainName (sgN g).cls = true) (hl : (lg_sl args).length ≤ sgL g) (hr : xrecv g args h) (ht : ∀ v h', P v h' → xtym (sgR g) v ∧ h'.1 = h.1 ∧ h'.2.1 = h.2.1)
    (hA : ∀ Q : Option Value → xHp → Prop, (∀ v h', P v h' → Q v h') → xAt (h.1, h.2.1) g Q 0 (lv_args 0 args) [] h) : SpecR g args h P :=
  ⟨hr, ht, Met_of (mc := 0) (ms := 0) hp hl (hA P (fun _ _ z => z))⟩
theorem SpecN.of {g : xSig} {args : List Value} {h : xHp} (mc ms : Nat) {P : Option Value → xHp → Prop} (hp : plainName (sgN g).cls = true) (hl : (lg_sl args).length ≤ sgL g) (hr : xrecv g args h) (ht : ∀ v h', P v h' → xtym (sgR g) v ∧ h'.1 = h.1 + mc ∧ h'.2.1 = h.2.1 + ms)
    (hA : ∀ Q : Option Value → xHp → Prop, (∀ v h', P v h' → Q v h') → xAt (h.1 + mc, h.2.1 + ms) g Q 0 (lv_args 0 args) [] h) : SpecN g args h mc ms P :=
  ⟨hr, ht, Met_of hp hl (hA P (fun _ _ z => z))⟩
theorem Spec.of {g : xSig} {args : List Value} {h h' : xHp} {v : Option Value} (hp : plainName (sgN g).cls = true) (hl : (lg_sl args).length ≤ sgL g) (ht : xtym (sgR g) v) (h1 : h'.1 = h.1) (h2 : h'.2.1 = h.2.1) (hr : xrecv g args h)
    (hA : ∀ Q : Option Value → xHp → Prop, Q v h' → xAt (h.1, h.2.1) g Q 0 (lv_args 0 args) [] h) : Spec g args h v h' :=
  SpecR.of hp hl hr (fun v2 h2' z => by obtain ⟨rfl, rfl⟩ := z; exact ⟨ht, h1, h2⟩) (fun Q hQ => hA Q (hQ _ _ ⟨rfl, rfl⟩))
end
section
/-! SIGNATURES, and what the tables say of each -/
def g_Fit_init : xSig := (⟨"TurningVerse$Fit", "<init>", "()V"⟩, prog_2_method_1_code, 1, none, 1, 20, 0, none)
def g_Fit_changes : xSig := (⟨"TurningVerse$Fit", "changes", "(LTurningVerse$Poem;II)I"⟩, prog_2_method_2_code, 5, some .int, 3, 74, 3, some 0)
def g_Fit_firstRow : xSig := (⟨"TurningVerse$Fit", "firstRow", "()I"⟩, prog_2_method_3_code, 5, some .int, 2, 47, 0, some 0)
def g_Fit_bestPermutation : xSig := (⟨"TurningVerse$Fit", "bestPermutation", "(LTurningVerse$Poem;I)I"⟩, prog_2_method_4_code, 9, some .int, 3, 74, 2, some 0)
def g_Fit_compare : xSig := (⟨"TurningVerse$Fit", "compare", "(LTurningVerse$Poem;II)V"⟩, prog_2_method_5_code, 9, none, 2, 46, 3, some 0)
def g_Fit_mostKept : xSig := (⟨"TurningVerse$Fit", "mostKept", "()I"⟩, prog_2_method_6_code, 6, some .int, 1, 26, 0, some 0)
def g_Fit_keptWith : xSig := (⟨"TurningVerse$Fit", "keptWith", "(III)I"⟩, prog_2_method_7_code, 5, some .int, 0, 0, 3, some 0)
def g_Fit_firstWord : xSig := (⟨"TurningVerse$Fit", "firstWord", "(II)I"⟩, prog_2_method_8_code, 4, some .int, 1, 24, 2, some 0)
def g_Fit_atMostKept : xSig := (⟨"TurningVerse$Fit", "atMostKept", "()I"⟩, prog_2_method_9_code, 4, some .int, 2, 49, 0, some 0)
def g_Fit_mostOfLine : xSig := (⟨"TurningVerse$Fit", "mostOfLine", "(I)I"⟩, prog_2_method_10_code, 4, some .int, 1, 26, 1, some 0)
def g_Fit_mostOfWord : xSig := (⟨"TurningVerse$Fit", "mostOfWord", "(I)I"⟩, prog_2_method_11_code, 4, some .int, 1, 26, 1, some 0)
def g_Hist_init : xSig := (⟨"TurningVerse$History", "<init>", "()V"⟩, prog_3_method_1_code, 2, none, 4, 86, 0, none)
def g_Hist_remember : xSig := (⟨"TurningVerse$History", "remember", "(LTurningVerse$State;)V"⟩, prog_3_method_2_code, 2, none, 3, 68, 1, some 1)
def g_Hist_restore : xSig := (⟨"TurningVerse$History", "restore", "(LTurningVerse$State;)V"⟩, prog_3_method_3_code, 2, none, 3, 68, 1, some 1)
def g_Perm_count : xSig := (⟨"TurningVerse$Permutation", "count", "(I)I"⟩, prog_4_method_2_code, 3, some .int, 0, 0, 1, none)
def g_Perm_number : xSig := (⟨"TurningVerse$Permutation", "number", "(II)I"⟩, prog_4_method_3_code, 6, some .int, 1, 21, 2, none)
def g_Perm_numbered : xSig := (⟨"TurningVerse$Permutation", "numbered", "(II)I"⟩, prog_4_method_4_code, 9, some .int, 1, 22, 2, none)
def g_Perm_ofKind : xSig := (⟨"TurningVerse$Permutation", "ofKind", "(III)I"⟩, prog_4_method_5_code, 5, some .int, 2, 45, 3, none)
def g_Perm_lineOfKind : xSig := (⟨"TurningVerse$Permutation", "lineOfKind", "(IIII)I"⟩, prog_4_method_6_code, 4, some .int, 1, 22, 4, none)
def g_Perm_lineOfWeave : xSig := (⟨"TurningVerse$Permutation", "lineOfWeave", "(II)I"⟩, prog_4_method_7_code, 3, some .int, 0, 0, 2, none)
def g_Perm_inverse : xSig := (⟨"TurningVerse$Permutation", "inverse", "(II)I"⟩, prog_4_method_8_code, 4, some .int, 1, 22, 2, none)
def g_Perm_repeated : xSig := (⟨"TurningVerse$Permutation", "repeated", "(III)I"⟩, prog_4_method_9_code, 6, some .int, 2, 46, 3, none)
def g_Perm_firstRoot : xSig := (⟨"TurningVerse$Permutation", "firstRoot", "(III)I"⟩, prog_4_method_10_code, 6, some .int, 3, 71, 3, none)
def g_Perm_order : xSig := (⟨"TurningVerse$Permutation", "order", "(II)I"⟩, prog_4_method_11_code, 5, some .int, 2, 46, 2, none)
def g_Perm_property : xSig := (⟨"TurningVerse$Permutation", "property", "(III)I"⟩, prog_4_method_12_code, 3, some .int, 3, 70, 3, none)
def g_Perm_cycleOf : xSig := (⟨"TurningVerse$Permutation", "cycleOf", "(III)I"⟩, prog_4_method_13_code, 5, some .int, 1, 21, 3, none)
def g_Perm_cycles : xSig := (⟨"TurningVerse$Permutation", "cycles", "(II)I"⟩, prog_4_method_14_code, 4, some .int, 2, 45, 2, none)
def g_Perm_fixedLines : xSig := (⟨"TurningVerse$Permutation", "fixedLines", "(II)I"⟩, prog_4_method_15_code, 4, some .int, 1, 21, 2, none)
def g_Perm_longestCycle : xSig := (⟨"TurningVerse$Permutation", "longestCycle", "(II)I"⟩, prog_4_method_16_code, 4, some .int, 2, 45, 2, none)
def g_Perm_cycleType : xSig := (⟨"TurningVerse$Permutation", "cycleType", "(II)I"⟩, prog_4_method_17_code, 5, some .int, 2, 45, 2, none)
def g_Poem_init : xSig := (⟨"TurningVerse$Poem", "<init>", "()V"⟩, prog_5_method_1_code, 1, none, 1, 20, 0, none)
def g_Poem_empty : xSig := (⟨"TurningVerse$Poem", "empty", "()V"⟩, prog_5_method_2_code, 1, none, 0, 0, 0, some 2)
def g_Poem_copyFrom : xSig := (⟨"TurningVerse$Poem", "copyFrom", "(LTurningVerse$Poem;)V"⟩, prog_5_method_3_code, 2, none, 1, 26, 1, some 2)
def g_Poem_append : xSig := (⟨"TurningVerse$Poem", "append", "(I)V"⟩, prog_5_method_4_code, 2, none, 0, 0, 1, some 2)
def g_Poem_properStanzas : xSig := (⟨"TurningVerse$Poem", "properStanzas", "(I)I"⟩, prog_5_method_6_code, 4, some .int, 3, 65, 1, some 2)
def g_Poem_lockedPlaces : xSig := (⟨"TurningVerse$Poem", "lockedPlaces", "()I"⟩, prog_5_method_7_code, 3, some .int, 1, 20, 0, some 2)
def g_Poem_turnBehind : xSig := (⟨"TurningVerse$Poem", "turnBehind", "(II)I"⟩, prog_5_method_8_code, 3, some .int, 3, 65, 2, some 2)
def g_Poem_turnsBy : xSig := (⟨"TurningVerse$Poem", "turnsBy", "(II)Z"⟩, prog_5_method_9_code, 4, some .boolean, 4, 88, 2, some 2)
def g_Poem_rewrite : xSig := (⟨"TurningVerse$Poem", "rewrite", "(III)V"⟩, prog_5_method_10_code, 6, none, 2, 46, 3, some 2)
def g_PR_init : xSig := (⟨"TurningVerse$PoemReader", "<init>", "()V"⟩, prog_6_method_1_code, 1, none, 2, 40, 0, none)
def g_Row_entry : xSig := (⟨"TurningVerse$Row", "entry", "(II)I"⟩, prog_8_method_2_code, 2, some .int, 0, 0, 2, none)
def g_Row_with : xSig := (⟨"TurningVerse$Row", "with", "(III)I"⟩, prog_8_method_3_code, 3, some .int, 0, 0, 3, none)
def g_Row_ascending : xSig := (⟨"TurningVerse$Row", "ascending", "(I)I"⟩, prog_8_method_4_code, 3, some .int, 1, 22, 1, none)
def g_Row_turned : xSig := (⟨"TurningVerse$Row", "turned", "(III)I"⟩, prog_8_method_5_code, 5, some .int, 1, 22, 3, none)
def g_Row_entries : xSig := (⟨"TurningVerse$Row", "entries", "(II)I"⟩, prog_8_method_6_code, 4, some .int, 1, 21, 2, none)
def g_Row_hasEach : xSig := (⟨"TurningVerse$Row", "hasEach", "(II)Z"⟩, prog_8_method_7_code, 2, some .boolean, 2, 44, 2, none)
def g_Sea_init : xSig := (⟨"TurningVerse$Search", "<init>", "()V"⟩, prog_9_method_1_code, 1, none, 1, 20, 0, none)
def g_Sea_spread : xSig := (⟨"TurningVerse$Search", "spread", "(LTurningVerse$State;I)V"⟩, prog_9_method_2_code, 6, none, 3, 69, 2, some 4)
def g_Sea_depthOf : xSig := (⟨"TurningVerse$Search", "depthOf", "(I)I"⟩, prog_9_method_3_code, 3, some .int, 2, 46, 1, some 4)
def g_Sea_factorAt : xSig := (⟨"TurningVerse$Search", "factorAt", "(II)I"⟩, prog_9_method_4_code, 5, some .int, 4, 91, 2, some 4)
def g_Sea_note : xSig := (⟨"TurningVerse$Search", "note", "(II)V"⟩, prog_9_method_5_code, 4, none, 2, 46, 2, some 4)
def g_Sea_isFactor : xSig := (⟨"TurningVerse$Search", "isFactor", "(I)Z"⟩, prog_9_method_6_code, 2, some .boolean, 0, 0, 1, some 4)
def g_Sea_firstFactor : xSig := (⟨"TurningVerse$Search", "firstFactor", "(I)I"⟩, prog_9_method_7_code, 4, some .int, 3, 68, 1, some 4)
def g_Sea_without : xSig := (⟨"TurningVerse$Search", "without", "(II)I"⟩, prog_9_method_8_code, 3, some .int, 2, 46, 2, some 4)
def g_Sta_init : xSig := (⟨"TurningVerse$State", "<init>", "()V"⟩, prog_10_method_1_code, 1, none, 3, 66, 0, none)
def g_Sta_startWith : xSig := (⟨"TurningVerse$State", "startWith", "(I)V"⟩, prog_10_method_2_code, 3, none, 2, 44, 1, some 5)
def g_Sta_copyFrom : xSig := (⟨"TurningVerse$State", "copyFrom", "(LTurningVerse$State;)V"⟩, prog_10_method_3_code, 2, none, 2, 47, 1, some 5)
def g_Txt_init : xSig := (⟨"TurningVerse$Text", "<init>", "()V"⟩, prog_11_method_1_code, 1, none, 1, 20, 0, none)
def g_TR_init : xSig := (⟨"TurningVerse$TurnReader", "<init>", "()V"⟩, prog_12_method_1_code, 1, none, 1, 20, 0, none)
def g_TV_init : xSig := (⟨"TurningVerse", "<init>", "()V"⟩, prog_1_method_1_code, 1, none, 5, 107, 0, none)
def g_TV_setWords : xSig := (⟨"TurningVerse", "setWords", "(I)I"⟩, prog_1_method_2_code, 3, some .int, 4, 89, 1, some 8)
def g_TV_make : xSig := (⟨"TurningVerse", "make", "(III)I"⟩, prog_1_method_8_code, 4, some .int, 5, 111, 3, some 8)
def g_TV_product : xSig := (⟨"TurningVerse", "product", "(III)I"⟩, prog_1_method_9_code, 4, some .int, 5, 111, 3, some 8)
def g_TV_power : xSig := (⟨"TurningVerse", "power", "(III)I"⟩, prog_1_method_10_code, 6, some .int, 5, 111, 3, some 8)
def g_TV_unrank : xSig := (⟨"TurningVerse", "unrank", "(II)I"⟩, prog_1_method_11_code, 4, some .int, 5, 111, 2, some 8)
def g_TV_root : xSig := (⟨"TurningVerse", "root", "(III)I"⟩, prog_1_method_12_code, 5, some .int, 5, 111, 3, some 8)
def g_TV_turn : xSig := (⟨"TurningVerse", "turn", "(II)I"⟩, prog_1_method_14_code, 3, some .int, 4, 92, 2, some 8)
def g_TV_generated : xSig := (⟨"TurningVerse", "generated", "(I)I"⟩, prog_1_method_16_code, 2, some .int, 4, 94, 1, some 8)
def g_TV_reach : xSig := (⟨"TurningVerse", "reach", "(II)I"⟩, prog_1_method_17_code, 4, some .int, 4, 94, 2, some 8)
def g_TV_factor : xSig := (⟨"TurningVerse", "factor", "(III)I"⟩, prog_1_method_18_code, 5, some .int, 5, 115, 3, some 8)
def g_TV_add : xSig := (⟨"TurningVerse", "add", "(I)I"⟩, prog_1_method_19_code, 3, some .int, 4, 89, 1, some 8)
def g_TV_drop : xSig := (⟨"TurningVerse", "drop", "()I"⟩, prog_1_method_20_code, 1, some .int, 4, 89, 0, some 8)
def g_TV_put : xSig := (⟨"TurningVerse", "put", "(III)I"⟩, prog_1_method_21_code, 5, some .int, 4, 89, 3, some 8)
def g_TV_lock : xSig := (⟨"TurningVerse", "lock", "(IIZ)I"⟩, prog_1_method_22_code, 6, some .int, 4, 89, 3, some 8)
def g_TV_word : xSig := (⟨"TurningVerse", "word", "(II)I"⟩, prog_1_method_23_code, 3, some .int, 1, 21, 2, some 8)
def g_TV_proper : xSig := (⟨"TurningVerse", "proper", "(I)I"⟩, prog_1_method_24_code, 2, some .int, 3, 65, 1, some 8)
def g_TV_turning : xSig := (⟨"TurningVerse", "turning", "(I)I"⟩, prog_1_method_25_code, 3, some .int, 4, 87, 1, some 8)
def g_TV_common : xSig := (⟨"TurningVerse", "common", "(I)I"⟩, prog_1_method_26_code, 3, some .int, 5, 111, 1, some 8)
def g_TV_follows : xSig := (⟨"TurningVerse", "follows", "(I)I"⟩, prog_1_method_27_code, 2, some .int, 5, 111, 1, some 8)
def g_TV_cost : xSig := (⟨"TurningVerse", "cost", "(I)I"⟩, prog_1_method_28_code, 2, some .int, 4, 98, 1, some 8)
def g_TV_mend : xSig := (⟨"TurningVerse", "mend", "(I)I"⟩, prog_1_method_29_code, 4, some .int, 4, 98, 1, some 8)
def g_TV_best : xSig := (⟨"TurningVerse", "best", "(I)I"⟩, prog_1_method_30_code, 3, some .int, 4, 102, 1, some 8)
def g_TV_told : xSig := (⟨"TurningVerse", "told", "(I)I"⟩, prog_1_method_36_code, 2, some .int, 4, 88, 1, some 8)
def g_TV_undo : xSig := (⟨"TurningVerse", "undo", "()I"⟩, prog_1_method_37_code, 1, some .int, 4, 89, 0, some 8)
def g_TV_isRegister : xSig := (⟨"TurningVerse", "isRegister", "(I)Z"⟩, prog_1_method_42_code, 1, some .boolean, 0, 0, 1, none)
def g_TV_isSetOfRegisters : xSig := (⟨"TurningVerse", "isSetOfRegisters", "(I)Z"⟩, prog_1_method_43_code, 1, some .boolean, 0, 0, 1, none)
def g_TV_isLine : xSig := (⟨"TurningVerse", "isLine", "(I)Z"⟩, prog_1_method_44_code, 2, some .boolean, 0, 0, 1, some 8)
def g_TV_isStanza : xSig := (⟨"TurningVerse", "isStanza", "(I)Z"⟩, prog_1_method_45_code, 2, some .boolean, 0, 0, 1, some 8)
def g_TV_store : xSig := (⟨"TurningVerse", "store", "(II)I"⟩, prog_1_method_47_code, 3, some .int, 4, 89, 2, some 8)
def g_JI_bitCount : xSig := (⟨"java/lang/Integer", "bitCount", "(I)I"⟩, prog_15_method_49_code, 1, some .int, 0, 0, 1, none)
def g_JA_fill : xSig := (⟨"java/util/Arrays", "fill", "([II)V"⟩, prog_18_method_103_code, 4, none, 0, 0, 2, none)
def g_Law_cell : xSig := (⟨"TurningVerseLaw", "cell", "([II)I"⟩, method_2_code, 2, some .int, 0, 0, 2, none)
def g_Law_all : xSig := (⟨"TurningVerseLaw", "all", "(I)I"⟩, method_3_code, 3, some .int, 0, 0, 1, none)
def g_Law_powers : xSig := (⟨"TurningVerseLaw", "powers", "(LTurningVerse;III)Z"⟩, method_6_code, 7, some .boolean, 6, 136, 4, none)
def g_Law_products : xSig := (⟨"TurningVerseLaw", "products", "(LTurningVerse;II)Z"⟩, method_7_code, 9, some .boolean, 6, 139, 3, none)
def g_Law_roots : xSig := (⟨"TurningVerseLaw", "roots", "(LTurningVerse;I)Z"⟩, method_8_code, 5, some .boolean, 6, 136, 2, none)
def g_Law_differences : xSig := (⟨"TurningVerseLaw", "differences", "(LTurningVerse;I[I)I"⟩, method_9_code, 6, some .int, 5, 109, 3, none)
def g_Law_mends : xSig := (⟨"TurningVerseLaw", "mends", "(LTurningVerse;I[I)Z"⟩, method_10_code, 11, some .boolean, 6, 134, 3, none)
def g_Law_law : xSig := (⟨"TurningVerseLaw", "law", "([I)Z"⟩, code, 5, some .boolean, 9, 334, 1, none)
set_option maxRecDepth 100000 in
theorem xmc_Fit_init : xmc g_Fit_init := ⟨lw_gm 25 rfl rfl, lw_gm 204 rfl rfl, by decide +kernel, by decide +kernel, by decide +kernel⟩
set_option maxRecDepth 100000 in
theorem xmi_Fit_init : xmi g_Fit_init := ⟨xmc_Fit_init, lw_gm 203 rfl rfl, rfl, rfl⟩
set_option maxRecDepth 100000 in
theorem xmc_Fit_changes : xmc g_Fit_changes := ⟨lw_gm 25 rfl rfl, lw_gm 494 rfl rfl, by decide +kernel, by decide +kernel, by decide +kernel⟩
set_option maxRecDepth 100000 in
theorem xmv_Fit_changes : xmv g_Fit_changes := ⟨xmc_Fit_changes, lw_gm 492 rfl rfl, lw_gm 493 rfl rfl, _, _, rfl, rfl, rfl⟩
set_option maxRecDepth 100000 in
theorem xmc_Fit_firstRow : xmc g_Fit_firstRow := ⟨lw_gm 25 rfl rfl, lw_gm 566 rfl rfl, by decide +kernel, by decide +kernel, by decide +kernel⟩
set_option maxRecDepth 100000 in
theorem xmv_Fit_firstRow : xmv g_Fit_firstRow := ⟨xmc_Fit_firstRow, lw_gm 564 rfl rfl, lw_gm 565 rfl rfl, _, _, rfl, rfl, rfl⟩
set_option maxRecDepth 100000 in
theorem xmc_Fit_bestPermutation : xmc g_Fit_bestPermutation := ⟨lw_gm 25 rfl rfl, lw_gm 535 rfl rfl, by decide +kernel, by decide +kernel, by decide +kernel⟩
set_option maxRecDepth 100000 in
theorem xmv_Fit_bestPermutation : xmv g_Fit_bestPermutation := ⟨xmc_Fit_bestPermutation, lw_gm 533 rfl rfl, lw_gm 534 rfl rfl, _, _, rfl, rfl, rfl⟩
set_option maxRecDepth 100000 in
theorem xmc_Fit_compare : xmc g_Fit_compare := ⟨lw_gm 25 rfl rfl, lw_gm 498 rfl rfl, by decide +kernel, by decide +kernel, by decide +kernel⟩
set_option maxRecDepth 100000 in
theorem xmv_Fit_compare : xmv g_Fit_compare := ⟨xmc_Fit_compare, lw_gm 497 rfl rfl, lw_gm 7 rfl rfl, _, _, rfl, rfl, rfl⟩
set_option maxRecDepth 100000 in
theorem xmc_Fit_mostKept : xmc g_Fit_mostKept := ⟨lw_gm 25 rfl rfl, lw_gm 506 rfl rfl, by decide +kernel, by decide +kernel, by decide +kernel⟩
set_option maxRecDepth 100000 in
theorem xmv_Fit_mostKept : xmv g_Fit_mostKept := ⟨xmc_Fit_mostKept, lw_gm 505 rfl rfl, lw_gm 8 rfl rfl, _, _, rfl, rfl, rfl⟩
set_option maxRecDepth 100000 in
theorem xmc_Fit_keptWith : xmc g_Fit_keptWith := ⟨lw_gm 25 rfl rfl, lw_gm 511 rfl rfl, by decide +kernel, by decide +kernel, by decide +kernel⟩
set_option maxRecDepth 100000 in
theorem xmv_Fit_keptWith : xmv g_Fit_keptWith := ⟨xmc_Fit_keptWith, lw_gm 510 rfl rfl, lw_gm 9 rfl rfl, _, _, rfl, rfl, rfl⟩
set_option maxRecDepth 100000 in
theorem xmc_Fit_firstWord : xmc g_Fit_firstWord := ⟨lw_gm 25 rfl rfl, lw_gm 570 rfl rfl, by decide +kernel, by decide +kernel, by decide +kernel⟩
set_option maxRecDepth 100000 in
theorem xmv_Fit_firstWord : xmv g_Fit_firstWord := ⟨xmc_Fit_firstWord, lw_gm 569 rfl rfl, lw_gm 13 rfl rfl, _, _, rfl, rfl, rfl⟩
set_option maxRecDepth 100000 in
theorem xmc_Fit_atMostKept : xmc g_Fit_atMostKept := ⟨lw_gm 25 rfl rfl, lw_gm 541 rfl rfl, by decide +kernel, by decide +kernel, by decide +kernel⟩
set_option maxRecDepth 100000 in
theorem xmv_Fit_atMostKept : xmv g_Fit_atMostKept := ⟨xmc_Fit_atMostKept, lw_gm 540 rfl rfl, lw_gm 10 rfl rfl, _, _, rfl, rfl, rfl⟩
set_option maxRecDepth 100000 in
theorem xmc_Fit_mostOfLine : xmc g_Fit_mostOfLine := ⟨lw_gm 25 rfl rfl, lw_gm 545 rfl rfl, by decide +kernel, by decide +kernel, by decide +kernel⟩
set_option maxRecDepth 100000 in
theorem xmv_Fit_mostOfLine : xmv g_Fit_mostOfLine := ⟨xmc_Fit_mostOfLine, lw_gm 544 rfl rfl, lw_gm 11 rfl rfl, _, _, rfl, rfl, rfl⟩
set_option maxRecDepth 100000 in
theorem xmc_Fit_mostOfWord : xmc g_Fit_mostOfWord := ⟨lw_gm 25 rfl rfl, lw_gm 549 rfl rfl, by decide +kernel, by decide +kernel, by decide +kernel⟩
set_option maxRecDepth 100000 in
theorem xmv_Fit_mostOfWord : xmv g_Fit_mostOfWord := ⟨xmc_Fit_mostOfWord, lw_gm 548 rfl rfl, lw_gm 12 rfl rfl, _, _, rfl, rfl, rfl⟩
set_option maxRecDepth 100000 in
theorem xmc_Hist_init : xmc g_Hist_init := ⟨lw_gm 20 rfl rfl, lw_gm 116 rfl rfl, by decide +kernel, by decide +kernel, by decide +kernel⟩
set_option maxRecDepth 100000 in
theorem xmi_Hist_init : xmi g_Hist_init := ⟨xmc_Hist_init, lw_gm 115 rfl rfl, rfl, rfl⟩
set_option maxRecDepth 100000 in
theorem xmc_Hist_remember : xmc g_Hist_remember := ⟨lw_gm 20 rfl rfl, lw_gm 251 rfl rfl, by decide +kernel, by decide +kernel, by decide +kernel⟩
set_option maxRecDepth 100000 in
theorem xmv_Hist_remember : xmv g_Hist_remember := ⟨xmc_Hist_remember, lw_gm 249 rfl rfl, lw_gm 250 rfl rfl, _, _, rfl, rfl, rfl⟩
set_option maxRecDepth 100000 in
theorem xmc_Hist_restore : xmc g_Hist_restore := ⟨lw_gm 20 rfl rfl, lw_gm 596 rfl rfl, by decide +kernel, by decide +kernel, by decide +kernel⟩
set_option maxRecDepth 100000 in
theorem xmv_Hist_restore : xmv g_Hist_restore := ⟨xmc_Hist_restore, lw_gm 594 rfl rfl, lw_gm 595 rfl rfl, _, _, rfl, rfl, rfl⟩
set_option maxRecDepth 100000 in
theorem xmc_Perm_count : xmc g_Perm_count := ⟨lw_gm 28 rfl rfl, lw_gm 277 rfl rfl, by decide +kernel, by decide +kernel, by decide +kernel⟩
set_option maxRecDepth 100000 in
theorem xms_Perm_count : xms g_Perm_count := ⟨xmc_Perm_count, lw_gm 276 rfl rfl⟩
set_option maxRecDepth 100000 in
theorem xmc_Perm_number : xmc g_Perm_number := ⟨lw_gm 28 rfl rfl, lw_gm 291 rfl rfl, by decide +kernel, by decide +kernel, by decide +kernel⟩
set_option maxRecDepth 100000 in
theorem xms_Perm_number : xms g_Perm_number := ⟨xmc_Perm_number, lw_gm 290 rfl rfl⟩
set_option maxRecDepth 100000 in
theorem xmc_Perm_numbered : xmc g_Perm_numbered := ⟨lw_gm 28 rfl rfl, lw_gm 280 rfl rfl, by decide +kernel, by decide +kernel, by decide +kernel⟩
set_option maxRecDepth 100000 in
theorem xms_Perm_numbered : xms g_Perm_numbered := ⟨xmc_Perm_numbered, lw_gm 279 rfl rfl⟩
set_option maxRecDepth 100000 in
theorem xmc_Perm_ofKind : xmc g_Perm_ofKind := ⟨lw_gm 28 rfl rfl, lw_gm 427 rfl rfl, by decide +kernel, by decide +kernel, by decide +kernel⟩
set_option maxRecDepth 100000 in
theorem xms_Perm_ofKind : xms g_Perm_ofKind := ⟨xmc_Perm_ofKind, lw_gm 426 rfl rfl⟩
set_option maxRecDepth 100000 in
theorem xmc_Perm_lineOfKind : xmc g_Perm_lineOfKind := ⟨lw_gm 28 rfl rfl, lw_gm 430 rfl rfl, by decide +kernel, by decide +kernel, by decide +kernel⟩
set_option maxRecDepth 100000 in
theorem xms_Perm_lineOfKind : xms g_Perm_lineOfKind := ⟨xmc_Perm_lineOfKind, lw_gm 429 rfl rfl⟩
set_option maxRecDepth 100000 in
theorem xmc_Perm_lineOfWeave : xmc g_Perm_lineOfWeave := ⟨lw_gm 28 rfl rfl, lw_gm 433 rfl rfl, by decide +kernel, by decide +kernel, by decide +kernel⟩
set_option maxRecDepth 100000 in
theorem xms_Perm_lineOfWeave : xms g_Perm_lineOfWeave := ⟨xmc_Perm_lineOfWeave, lw_gm 432 rfl rfl⟩
set_option maxRecDepth 100000 in
theorem xmc_Perm_inverse : xmc g_Perm_inverse := ⟨lw_gm 28 rfl rfl, lw_gm 352 rfl rfl, by decide +kernel, by decide +kernel, by decide +kernel⟩
set_option maxRecDepth 100000 in
theorem xms_Perm_inverse : xms g_Perm_inverse := ⟨xmc_Perm_inverse, lw_gm 351 rfl rfl⟩
set_option maxRecDepth 100000 in
theorem xmc_Perm_repeated : xmc g_Perm_repeated := ⟨lw_gm 28 rfl rfl, lw_gm 358 rfl rfl, by decide +kernel, by decide +kernel, by decide +kernel⟩
set_option maxRecDepth 100000 in
theorem xms_Perm_repeated : xms g_Perm_repeated := ⟨xmc_Perm_repeated, lw_gm 357 rfl rfl⟩
set_option maxRecDepth 100000 in
theorem xmc_Perm_firstRoot : xmc g_Perm_firstRoot := ⟨lw_gm 28 rfl rfl, lw_gm 443 rfl rfl, by decide +kernel, by decide +kernel, by decide +kernel⟩
set_option maxRecDepth 100000 in
theorem xms_Perm_firstRoot : xms g_Perm_firstRoot := ⟨xmc_Perm_firstRoot, lw_gm 442 rfl rfl⟩
set_option maxRecDepth 100000 in
theorem xmc_Perm_order : xmc g_Perm_order := ⟨lw_gm 28 rfl rfl, lw_gm 300 rfl rfl, by decide +kernel, by decide +kernel, by decide +kernel⟩
set_option maxRecDepth 100000 in
theorem xms_Perm_order : xms g_Perm_order := ⟨xmc_Perm_order, lw_gm 299 rfl rfl⟩
set_option maxRecDepth 100000 in
theorem xmc_Perm_property : xmc g_Perm_property := ⟨lw_gm 28 rfl rfl, lw_gm 312 rfl rfl, by decide +kernel, by decide +kernel, by decide +kernel⟩
set_option maxRecDepth 100000 in
theorem xms_Perm_property : xms g_Perm_property := ⟨xmc_Perm_property, lw_gm 311 rfl rfl⟩
set_option maxRecDepth 100000 in
theorem xmc_Perm_cycleOf : xmc g_Perm_cycleOf := ⟨lw_gm 28 rfl rfl, lw_gm 320 rfl rfl, by decide +kernel, by decide +kernel, by decide +kernel⟩
set_option maxRecDepth 100000 in
theorem xms_Perm_cycleOf : xms g_Perm_cycleOf := ⟨xmc_Perm_cycleOf, lw_gm 319 rfl rfl⟩
set_option maxRecDepth 100000 in
theorem xmc_Perm_cycles : xmc g_Perm_cycles := ⟨lw_gm 28 rfl rfl, lw_gm 317 rfl rfl, by decide +kernel, by decide +kernel, by decide +kernel⟩
set_option maxRecDepth 100000 in
theorem xms_Perm_cycles : xms g_Perm_cycles := ⟨xmc_Perm_cycles, lw_gm 316 rfl rfl⟩
set_option maxRecDepth 100000 in
theorem xmc_Perm_fixedLines : xmc g_Perm_fixedLines := ⟨lw_gm 28 rfl rfl, lw_gm 323 rfl rfl, by decide +kernel, by decide +kernel, by decide +kernel⟩
set_option maxRecDepth 100000 in
theorem xms_Perm_fixedLines : xms g_Perm_fixedLines := ⟨xmc_Perm_fixedLines, lw_gm 322 rfl rfl⟩
set_option maxRecDepth 100000 in
theorem xmc_Perm_longestCycle : xmc g_Perm_longestCycle := ⟨lw_gm 28 rfl rfl, lw_gm 326 rfl rfl, by decide +kernel, by decide +kernel, by decide +kernel⟩
set_option maxRecDepth 100000 in
theorem xms_Perm_longestCycle : xms g_Perm_longestCycle := ⟨xmc_Perm_longestCycle, lw_gm 325 rfl rfl⟩
set_option maxRecDepth 100000 in
theorem xmc_Perm_cycleType : xmc g_Perm_cycleType := ⟨lw_gm 28 rfl rfl, lw_gm 332 rfl rfl, by decide +kernel, by decide +kernel, by decide +kernel⟩
set_option maxRecDepth 100000 in
theorem xms_Perm_cycleType : xms g_Perm_cycleType := ⟨xmc_Perm_cycleType, lw_gm 331 rfl rfl⟩
set_option maxRecDepth 100000 in
theorem xmc_Poem_init : xmc g_Poem_init := ⟨lw_gm 17 rfl rfl, lw_gm 48 rfl rfl, by decide +kernel, by decide +kernel, by decide +kernel⟩
set_option maxRecDepth 100000 in
theorem xmi_Poem_init : xmi g_Poem_init := ⟨xmc_Poem_init, lw_gm 47 rfl rfl, rfl, rfl⟩
set_option maxRecDepth 100000 in
theorem xmc_Poem_empty : xmc g_Poem_empty := ⟨lw_gm 17 rfl rfl, lw_gm 93 rfl rfl, by decide +kernel, by decide +kernel, by decide +kernel⟩
set_option maxRecDepth 100000 in
theorem xmv_Poem_empty : xmv g_Poem_empty := ⟨xmc_Poem_empty, lw_gm 91 rfl rfl, lw_gm 92 rfl rfl, _, _, rfl, rfl, rfl⟩
set_option maxRecDepth 100000 in
theorem xmc_Poem_copyFrom : xmc g_Poem_copyFrom := ⟨lw_gm 17 rfl rfl, lw_gm 262 rfl rfl, by decide +kernel, by decide +kernel, by decide +kernel⟩
set_option maxRecDepth 100000 in
theorem xmv_Poem_copyFrom : xmv g_Poem_copyFrom := ⟨xmc_Poem_copyFrom, lw_gm 260 rfl rfl, lw_gm 261 rfl rfl, _, _, rfl, rfl, rfl⟩
set_option maxRecDepth 100000 in
theorem xmc_Poem_append : xmc g_Poem_append := ⟨lw_gm 17 rfl rfl, lw_gm 458 rfl rfl, by decide +kernel, by decide +kernel, by decide +kernel⟩
set_option maxRecDepth 100000 in
theorem xmv_Poem_append : xmv g_Poem_append := ⟨xmc_Poem_append, lw_gm 456 rfl rfl, lw_gm 457 rfl rfl, _, _, rfl, rfl, rfl⟩
set_option maxRecDepth 100000 in
theorem xmc_Poem_properStanzas : xmc g_Poem_properStanzas := ⟨lw_gm 17 rfl rfl, lw_gm 484 rfl rfl, by decide +kernel, by decide +kernel, by decide +kernel⟩
set_option maxRecDepth 100000 in
theorem xmv_Poem_properStanzas : xmv g_Poem_properStanzas := ⟨xmc_Poem_properStanzas, lw_gm 482 rfl rfl, lw_gm 483 rfl rfl, _, _, rfl, rfl, rfl⟩
set_option maxRecDepth 100000 in
theorem xmc_Poem_lockedPlaces : xmc g_Poem_lockedPlaces := ⟨lw_gm 17 rfl rfl, lw_gm 587 rfl rfl, by decide +kernel, by decide +kernel, by decide +kernel⟩
set_option maxRecDepth 100000 in
theorem xmv_Poem_lockedPlaces : xmv g_Poem_lockedPlaces := ⟨xmc_Poem_lockedPlaces, lw_gm 585 rfl rfl, lw_gm 586 rfl rfl, _, _, rfl, rfl, rfl⟩
set_option maxRecDepth 100000 in
theorem xmc_Poem_turnBehind : xmc g_Poem_turnBehind := ⟨lw_gm 17 rfl rfl, lw_gm 520 rfl rfl, by decide +kernel, by decide +kernel, by decide +kernel⟩
set_option maxRecDepth 100000 in
theorem xmv_Poem_turnBehind : xmv g_Poem_turnBehind := ⟨xmc_Poem_turnBehind, lw_gm 518 rfl rfl, lw_gm 519 rfl rfl, _, _, rfl, rfl, rfl⟩
set_option maxRecDepth 100000 in
theorem xmc_Poem_turnsBy : xmc g_Poem_turnsBy := ⟨lw_gm 17 rfl rfl, lw_gm 480 rfl rfl, by decide +kernel, by decide +kernel, by decide +kernel⟩
set_option maxRecDepth 100000 in
theorem xmv_Poem_turnsBy : xmv g_Poem_turnsBy := ⟨xmc_Poem_turnsBy, lw_gm 478 rfl rfl, lw_gm 479 rfl rfl, _, _, rfl, rfl, rfl⟩
set_option maxRecDepth 100000 in
theorem xmc_Poem_rewrite : xmc g_Poem_rewrite := ⟨lw_gm 17 rfl rfl, lw_gm 575 rfl rfl, by decide +kernel, by decide +kernel, by decide +kernel⟩
set_option maxRecDepth 100000 in
theorem xmv_Poem_rewrite : xmv g_Poem_rewrite := ⟨xmc_Poem_rewrite, lw_gm 573 rfl rfl, lw_gm 574 rfl rfl, _, _, rfl, rfl, rfl⟩
set_option maxRecDepth 100000 in
theorem xmc_PR_init : xmc g_PR_init := ⟨lw_gm 22 rfl rfl, lw_gm 150 rfl rfl, by decide +kernel, by decide +kernel, by decide +kernel⟩
set_option maxRecDepth 100000 in
theorem xmi_PR_init : xmi g_PR_init := ⟨xmc_PR_init, lw_gm 149 rfl rfl, rfl, rfl⟩
set_option maxRecDepth 100000 in
theorem xmc_Row_entry : xmc g_Row_entry := ⟨lw_gm 18 rfl rfl, lw_gm 283 rfl rfl, by decide +kernel, by decide +kernel, by decide +kernel⟩
set_option maxRecDepth 100000 in
theorem xms_Row_entry : xms g_Row_entry := ⟨xmc_Row_entry, lw_gm 282 rfl rfl⟩
set_option maxRecDepth 100000 in
theorem xmc_Row_with : xmc g_Row_with := ⟨lw_gm 18 rfl rfl, lw_gm 82 rfl rfl, by decide +kernel, by decide +kernel, by decide +kernel⟩
set_option maxRecDepth 100000 in
theorem xms_Row_with : xms g_Row_with := ⟨xmc_Row_with, lw_gm 81 rfl rfl⟩
set_option maxRecDepth 100000 in
theorem xmc_Row_ascending : xmc g_Row_ascending := ⟨lw_gm 18 rfl rfl, lw_gm 85 rfl rfl, by decide +kernel, by decide +kernel, by decide +kernel⟩
set_option maxRecDepth 100000 in
theorem xms_Row_ascending : xms g_Row_ascending := ⟨xmc_Row_ascending, lw_gm 84 rfl rfl⟩
set_option maxRecDepth 100000 in
theorem xmc_Row_turned : xmc g_Row_turned := ⟨lw_gm 18 rfl rfl, lw_gm 304 rfl rfl, by decide +kernel, by decide +kernel, by decide +kernel⟩
set_option maxRecDepth 100000 in
theorem xms_Row_turned : xms g_Row_turned := ⟨xmc_Row_turned, lw_gm 303 rfl rfl⟩
set_option maxRecDepth 100000 in
theorem xmc_Row_entries : xmc g_Row_entries := ⟨lw_gm 18 rfl rfl, lw_gm 472 rfl rfl, by decide +kernel, by decide +kernel, by decide +kernel⟩
set_option maxRecDepth 100000 in
theorem xms_Row_entries : xms g_Row_entries := ⟨xmc_Row_entries, lw_gm 471 rfl rfl⟩
set_option maxRecDepth 100000 in
theorem xmc_Row_hasEach : xmc g_Row_hasEach := ⟨lw_gm 18 rfl rfl, lw_gm 469 rfl rfl, by decide +kernel, by decide +kernel, by decide +kernel⟩
set_option maxRecDepth 100000 in
theorem xms_Row_hasEach : xms g_Row_hasEach := ⟨xmc_Row_hasEach, lw_gm 468 rfl rfl⟩
set_option maxRecDepth 100000 in
theorem xmc_Sea_init : xmc g_Sea_init := ⟨lw_gm 24 rfl rfl, lw_gm 178 rfl rfl, by decide +kernel, by decide +kernel, by decide +kernel⟩
set_option maxRecDepth 100000 in
theorem xmi_Sea_init : xmi g_Sea_init := ⟨xmc_Sea_init, lw_gm 177 rfl rfl, rfl, rfl⟩
set_option maxRecDepth 100000 in
theorem xmc_Sea_spread : xmc g_Sea_spread := ⟨lw_gm 24 rfl rfl, lw_gm 369 rfl rfl, by decide +kernel, by decide +kernel, by decide +kernel⟩
set_option maxRecDepth 100000 in
theorem xmv_Sea_spread : xmv g_Sea_spread := ⟨xmc_Sea_spread, lw_gm 367 rfl rfl, lw_gm 368 rfl rfl, _, _, rfl, rfl, rfl⟩
set_option maxRecDepth 100000 in
theorem xmc_Sea_depthOf : xmc g_Sea_depthOf := ⟨lw_gm 24 rfl rfl, lw_gm 381 rfl rfl, by decide +kernel, by decide +kernel, by decide +kernel⟩
set_option maxRecDepth 100000 in
theorem xmv_Sea_depthOf : xmv g_Sea_depthOf := ⟨xmc_Sea_depthOf, lw_gm 379 rfl rfl, lw_gm 380 rfl rfl, _, _, rfl, rfl, rfl⟩
set_option maxRecDepth 100000 in
theorem xmc_Sea_factorAt : xmc g_Sea_factorAt := ⟨lw_gm 24 rfl rfl, lw_gm 407 rfl rfl, by decide +kernel, by decide +kernel, by decide +kernel⟩
set_option maxRecDepth 100000 in
theorem xmv_Sea_factorAt : xmv g_Sea_factorAt := ⟨xmc_Sea_factorAt, lw_gm 405 rfl rfl, lw_gm 406 rfl rfl, _, _, rfl, rfl, rfl⟩
set_option maxRecDepth 100000 in
theorem xmc_Sea_note : xmc g_Sea_note := ⟨lw_gm 24 rfl rfl, lw_gm 376 rfl rfl, by decide +kernel, by decide +kernel, by decide +kernel⟩
set_option maxRecDepth 100000 in
theorem xmv_Sea_note : xmv g_Sea_note := ⟨xmc_Sea_note, lw_gm 375 rfl rfl, lw_gm 1 rfl rfl, _, _, rfl, rfl, rfl⟩
set_option maxRecDepth 100000 in
theorem xmc_Sea_isFactor : xmc g_Sea_isFactor := ⟨lw_gm 24 rfl rfl, lw_gm 385 rfl rfl, by decide +kernel, by decide +kernel, by decide +kernel⟩
set_option maxRecDepth 100000 in
theorem xmv_Sea_isFactor : xmv g_Sea_isFactor := ⟨xmc_Sea_isFactor, lw_gm 384 rfl rfl, lw_gm 2 rfl rfl, _, _, rfl, rfl, rfl⟩
set_option maxRecDepth 100000 in
theorem xmc_Sea_firstFactor : xmc g_Sea_firstFactor := ⟨lw_gm 24 rfl rfl, lw_gm 411 rfl rfl, by decide +kernel, by decide +kernel, by decide +kernel⟩
set_option maxRecDepth 100000 in
theorem xmv_Sea_firstFactor : xmv g_Sea_firstFactor := ⟨xmc_Sea_firstFactor, lw_gm 410 rfl rfl, lw_gm 3 rfl rfl, _, _, rfl, rfl, rfl⟩
set_option maxRecDepth 100000 in
theorem xmc_Sea_without : xmc g_Sea_without := ⟨lw_gm 24 rfl rfl, lw_gm 415 rfl rfl, by decide +kernel, by decide +kernel, by decide +kernel⟩
set_option maxRecDepth 100000 in
theorem xmv_Sea_without : xmv g_Sea_without := ⟨xmc_Sea_without, lw_gm 414 rfl rfl, lw_gm 4 rfl rfl, _, _, rfl, rfl, rfl⟩
set_option maxRecDepth 100000 in
theorem xmc_Sta_init : xmc g_Sta_init := ⟨lw_gm 16 rfl rfl, lw_gm 42 rfl rfl, by decide +kernel, by decide +kernel, by decide +kernel⟩
set_option maxRecDepth 100000 in
theorem xmi_Sta_init : xmi g_Sta_init := ⟨xmc_Sta_init, lw_gm 41 rfl rfl, rfl, rfl⟩
set_option maxRecDepth 100000 in
theorem xmc_Sta_startWith : xmc g_Sta_startWith := ⟨lw_gm 16 rfl rfl, lw_gm 79 rfl rfl, by decide +kernel, by decide +kernel, by decide +kernel⟩
set_option maxRecDepth 100000 in
theorem xmv_Sta_startWith : xmv g_Sta_startWith := ⟨xmc_Sta_startWith, lw_gm 77 rfl rfl, lw_gm 78 rfl rfl, _, _, rfl, rfl, rfl⟩
set_option maxRecDepth 100000 in
theorem xmc_Sta_copyFrom : xmc g_Sta_copyFrom := ⟨lw_gm 16 rfl rfl, lw_gm 255 rfl rfl, by decide +kernel, by decide +kernel, by decide +kernel⟩
set_option maxRecDepth 100000 in
theorem xmv_Sta_copyFrom : xmv g_Sta_copyFrom := ⟨xmc_Sta_copyFrom, lw_gm 253 rfl rfl, lw_gm 254 rfl rfl, _, _, rfl, rfl, rfl⟩
set_option maxRecDepth 100000 in
theorem xmc_Txt_init : xmc g_Txt_init := ⟨lw_gm 21 rfl rfl, lw_gm 136 rfl rfl, by decide +kernel, by decide +kernel, by decide +kernel⟩
set_option maxRecDepth 100000 in
theorem xmi_Txt_init : xmi g_Txt_init := ⟨xmc_Txt_init, lw_gm 135 rfl rfl, rfl, rfl⟩
set_option maxRecDepth 100000 in
theorem xmc_TR_init : xmc g_TR_init := ⟨lw_gm 23 rfl rfl, lw_gm 168 rfl rfl, by decide +kernel, by decide +kernel, by decide +kernel⟩
set_option maxRecDepth 100000 in
theorem xmi_TR_init : xmi g_TR_init := ⟨xmc_TR_init, lw_gm 167 rfl rfl, rfl, rfl⟩
set_option maxRecDepth 100000 in
theorem xmc_TV_init : xmc g_TV_init := ⟨lw_gm 15 rfl rfl, lw_gm 34 rfl rfl, by decide +kernel, by decide +kernel, by decide +kernel⟩
set_option maxRecDepth 100000 in
theorem xmi_TV_init : xmi g_TV_init := ⟨xmc_TV_init, lw_gm 33 rfl rfl, rfl, rfl⟩
set_option maxRecDepth 100000 in
theorem xmc_TV_setWords : xmc g_TV_setWords := ⟨lw_gm 15 rfl rfl, lw_gm 247 rfl rfl, by decide +kernel, by decide +kernel, by decide +kernel⟩
set_option maxRecDepth 100000 in
theorem xmv_TV_setWords : xmv g_TV_setWords := ⟨xmc_TV_setWords, lw_gm 245 rfl rfl, lw_gm 246 rfl rfl, _, _, rfl, rfl, rfl⟩
set_option maxRecDepth 100000 in
theorem xmc_TV_make : xmc g_TV_make := ⟨lw_gm 15 rfl rfl, lw_gm 420 rfl rfl, by decide +kernel, by decide +kernel, by decide +kernel⟩
set_option maxRecDepth 100000 in
theorem xmv_TV_make : xmv g_TV_make := ⟨xmc_TV_make, lw_gm 418 rfl rfl, lw_gm 419 rfl rfl, _, _, rfl, rfl, rfl⟩
set_option maxRecDepth 100000 in
theorem xmc_TV_product : xmc g_TV_product := ⟨lw_gm 15 rfl rfl, lw_gm 390 rfl rfl, by decide +kernel, by decide +kernel, by decide +kernel⟩
set_option maxRecDepth 100000 in
theorem xmv_TV_product : xmv g_TV_product := ⟨xmc_TV_product, lw_gm 388 rfl rfl, lw_gm 389 rfl rfl, _, _, rfl, rfl, rfl⟩
set_option maxRecDepth 100000 in
theorem xmc_TV_power : xmc g_TV_power := ⟨lw_gm 15 rfl rfl, lw_gm 347 rfl rfl, by decide +kernel, by decide +kernel, by decide +kernel⟩
set_option maxRecDepth 100000 in
theorem xmv_TV_power : xmv g_TV_power := ⟨xmc_TV_power, lw_gm 345 rfl rfl, lw_gm 346 rfl rfl, _, _, rfl, rfl, rfl⟩
set_option maxRecDepth 100000 in
theorem xmc_TV_unrank : xmc g_TV_unrank := ⟨lw_gm 15 rfl rfl, lw_gm 271 rfl rfl, by decide +kernel, by decide +kernel, by decide +kernel⟩
set_option maxRecDepth 100000 in
theorem xmv_TV_unrank : xmv g_TV_unrank := ⟨xmc_TV_unrank, lw_gm 269 rfl rfl, lw_gm 270 rfl rfl, _, _, rfl, rfl, rfl⟩
set_option maxRecDepth 100000 in
theorem xmc_TV_root : xmc g_TV_root := ⟨lw_gm 15 rfl rfl, lw_gm 440 rfl rfl, by decide +kernel, by decide +kernel, by decide +kernel⟩
set_option maxRecDepth 100000 in
theorem xmv_TV_root : xmv g_TV_root := ⟨xmc_TV_root, lw_gm 438 rfl rfl, lw_gm 439 rfl rfl, _, _, rfl, rfl, rfl⟩
set_option maxRecDepth 100000 in
theorem xmc_TV_turn : xmc g_TV_turn := ⟨lw_gm 15 rfl rfl, lw_gm 309 rfl rfl, by decide +kernel, by decide +kernel, by decide +kernel⟩
set_option maxRecDepth 100000 in
theorem xmv_TV_turn : xmv g_TV_turn := ⟨xmc_TV_turn, lw_gm 307 rfl rfl, lw_gm 308 rfl rfl, _, _, rfl, rfl, rfl⟩
set_option maxRecDepth 100000 in
theorem xmc_TV_generated : xmc g_TV_generated := ⟨lw_gm 15 rfl rfl, lw_gm 362 rfl rfl, by decide +kernel, by decide +kernel, by decide +kernel⟩
set_option maxRecDepth 100000 in
theorem xmv_TV_generated : xmv g_TV_generated := ⟨xmc_TV_generated, lw_gm 360 rfl rfl, lw_gm 361 rfl rfl, _, _, rfl, rfl, rfl⟩
set_option maxRecDepth 100000 in
theorem xmc_TV_reach : xmc g_TV_reach := ⟨lw_gm 15 rfl rfl, lw_gm 398 rfl rfl, by decide +kernel, by decide +kernel, by decide +kernel⟩
set_option maxRecDepth 100000 in
theorem xmv_TV_reach : xmv g_TV_reach := ⟨xmc_TV_reach, lw_gm 396 rfl rfl, lw_gm 397 rfl rfl, _, _, rfl, rfl, rfl⟩
set_option maxRecDepth 100000 in
theorem xmc_TV_factor : xmc g_TV_factor := ⟨lw_gm 15 rfl rfl, lw_gm 403 rfl rfl, by decide +kernel, by decide +kernel, by decide +kernel⟩
set_option maxRecDepth 100000 in
theorem xmv_TV_factor : xmv g_TV_factor := ⟨xmc_TV_factor, lw_gm 401 rfl rfl, lw_gm 402 rfl rfl, _, _, rfl, rfl, rfl⟩
set_option maxRecDepth 100000 in
theorem xmc_TV_add : xmc g_TV_add := ⟨lw_gm 15 rfl rfl, lw_gm 453 rfl rfl, by decide +kernel, by decide +kernel, by decide +kernel⟩
set_option maxRecDepth 100000 in
theorem xmv_TV_add : xmv g_TV_add := ⟨xmc_TV_add, lw_gm 451 rfl rfl, lw_gm 452 rfl rfl, _, _, rfl, rfl, rfl⟩
set_option maxRecDepth 100000 in
theorem xmc_TV_drop : xmc g_TV_drop := ⟨lw_gm 15 rfl rfl, lw_gm 604 rfl rfl, by decide +kernel, by decide +kernel, by decide +kernel⟩
set_option maxRecDepth 100000 in
theorem xmv_TV_drop : xmv g_TV_drop := ⟨xmc_TV_drop, lw_gm 602 rfl rfl, lw_gm 603 rfl rfl, _, _, rfl, rfl, rfl⟩
set_option maxRecDepth 100000 in
theorem xmc_TV_put : xmc g_TV_put := ⟨lw_gm 15 rfl rfl, lw_gm 525 rfl rfl, by decide +kernel, by decide +kernel, by decide +kernel⟩
set_option maxRecDepth 100000 in
theorem xmv_TV_put : xmv g_TV_put := ⟨xmc_TV_put, lw_gm 523 rfl rfl, lw_gm 524 rfl rfl, _, _, rfl, rfl, rfl⟩
set_option maxRecDepth 100000 in
theorem xmc_TV_lock : xmc g_TV_lock := ⟨lw_gm 15 rfl rfl, lw_gm 558 rfl rfl, by decide +kernel, by decide +kernel, by decide +kernel⟩
set_option maxRecDepth 100000 in
theorem xmv_TV_lock : xmv g_TV_lock := ⟨xmc_TV_lock, lw_gm 556 rfl rfl, lw_gm 557 rfl rfl, _, _, rfl, rfl, rfl⟩
set_option maxRecDepth 100000 in
theorem xmc_TV_word : xmc g_TV_word := ⟨lw_gm 15 rfl rfl, lw_gm 554 rfl rfl, by decide +kernel, by decide +kernel, by decide +kernel⟩
set_option maxRecDepth 100000 in
theorem xmv_TV_word : xmv g_TV_word := ⟨xmc_TV_word, lw_gm 552 rfl rfl, lw_gm 553 rfl rfl, _, _, rfl, rfl, rfl⟩
set_option maxRecDepth 100000 in
theorem xmc_TV_proper : xmc g_TV_proper := ⟨lw_gm 15 rfl rfl, lw_gm 462 rfl rfl, by decide +kernel, by decide +kernel, by decide +kernel⟩
set_option maxRecDepth 100000 in
theorem xmv_TV_proper : xmv g_TV_proper := ⟨xmc_TV_proper, lw_gm 460 rfl rfl, lw_gm 461 rfl rfl, _, _, rfl, rfl, rfl⟩
set_option maxRecDepth 100000 in
theorem xmc_TV_turning : xmc g_TV_turning := ⟨lw_gm 15 rfl rfl, lw_gm 600 rfl rfl, by decide +kernel, by decide +kernel, by decide +kernel⟩
set_option maxRecDepth 100000 in
theorem xmv_TV_turning : xmv g_TV_turning := ⟨xmc_TV_turning, lw_gm 598 rfl rfl, lw_gm 599 rfl rfl, _, _, rfl, rfl, rfl⟩
set_option maxRecDepth 100000 in
theorem xmc_TV_common : xmc g_TV_common := ⟨lw_gm 15 rfl rfl, lw_gm 516 rfl rfl, by decide +kernel, by decide +kernel, by decide +kernel⟩
set_option maxRecDepth 100000 in
theorem xmv_TV_common : xmv g_TV_common := ⟨xmc_TV_common, lw_gm 514 rfl rfl, lw_gm 515 rfl rfl, _, _, rfl, rfl, rfl⟩
set_option maxRecDepth 100000 in
theorem xmc_TV_follows : xmc g_TV_follows := ⟨lw_gm 15 rfl rfl, lw_gm 476 rfl rfl, by decide +kernel, by decide +kernel, by decide +kernel⟩
set_option maxRecDepth 100000 in
theorem xmv_TV_follows : xmv g_TV_follows := ⟨xmc_TV_follows, lw_gm 474 rfl rfl, lw_gm 475 rfl rfl, _, _, rfl, rfl, rfl⟩
set_option maxRecDepth 100000 in
theorem xmc_TV_cost : xmc g_TV_cost := ⟨lw_gm 15 rfl rfl, lw_gm 490 rfl rfl, by decide +kernel, by decide +kernel, by decide +kernel⟩
set_option maxRecDepth 100000 in
theorem xmv_TV_cost : xmv g_TV_cost := ⟨xmc_TV_cost, lw_gm 488 rfl rfl, lw_gm 489 rfl rfl, _, _, rfl, rfl, rfl⟩
set_option maxRecDepth 100000 in
theorem xmc_TV_mend : xmc g_TV_mend := ⟨lw_gm 15 rfl rfl, lw_gm 562 rfl rfl, by decide +kernel, by decide +kernel, by decide +kernel⟩
set_option maxRecDepth 100000 in
theorem xmv_TV_mend : xmv g_TV_mend := ⟨xmc_TV_mend, lw_gm 560 rfl rfl, lw_gm 561 rfl rfl, _, _, rfl, rfl, rfl⟩
set_option maxRecDepth 100000 in
theorem xmc_TV_best : xmc g_TV_best := ⟨lw_gm 15 rfl rfl, lw_gm 531 rfl rfl, by decide +kernel, by decide +kernel, by decide +kernel⟩
set_option maxRecDepth 100000 in
theorem xmv_TV_best : xmv g_TV_best := ⟨xmc_TV_best, lw_gm 529 rfl rfl, lw_gm 530 rfl rfl, _, _, rfl, rfl, rfl⟩
set_option maxRecDepth 100000 in
theorem xmc_TV_told : xmc g_TV_told := ⟨lw_gm 15 rfl rfl, lw_gm 582 rfl rfl, by decide +kernel, by decide +kernel, by decide +kernel⟩
set_option maxRecDepth 100000 in
theorem xmv_TV_told : xmv g_TV_told := ⟨xmc_TV_told, lw_gm 580 rfl rfl, lw_gm 581 rfl rfl, _, _, rfl, rfl, rfl⟩
set_option maxRecDepth 100000 in
theorem xmc_TV_undo : xmc g_TV_undo := ⟨lw_gm 15 rfl rfl, lw_gm 592 rfl rfl, by decide +kernel, by decide +kernel, by decide +kernel⟩
set_option maxRecDepth 100000 in
theorem xmv_TV_undo : xmv g_TV_undo := ⟨xmc_TV_undo, lw_gm 590 rfl rfl, lw_gm 591 rfl rfl, _, _, rfl, rfl, rfl⟩
set_option maxRecDepth 100000 in
theorem xmc_TV_isRegister : xmc g_TV_isRegister := ⟨lw_gm 15 rfl rfl, lw_gm 274 rfl rfl, by decide +kernel, by decide +kernel, by decide +kernel⟩
set_option maxRecDepth 100000 in
theorem xms_TV_isRegister : xms g_TV_isRegister := ⟨xmc_TV_isRegister, lw_gm 273 rfl rfl⟩
set_option maxRecDepth 100000 in
theorem xmc_TV_isSetOfRegisters : xmc g_TV_isSetOfRegisters := ⟨lw_gm 15 rfl rfl, lw_gm 365 rfl rfl, by decide +kernel, by decide +kernel, by decide +kernel⟩
set_option maxRecDepth 100000 in
theorem xms_TV_isSetOfRegisters : xms g_TV_isSetOfRegisters := ⟨xmc_TV_isSetOfRegisters, lw_gm 364 rfl rfl⟩
set_option maxRecDepth 100000 in
theorem xmc_TV_isLine : xmc g_TV_isLine := ⟨lw_gm 15 rfl rfl, lw_gm 424 rfl rfl, by decide +kernel, by decide +kernel, by decide +kernel⟩
set_option maxRecDepth 100000 in
theorem xmv_TV_isLine : xmv g_TV_isLine := ⟨xmc_TV_isLine, lw_gm 423 rfl rfl, lw_gm 5 rfl rfl, _, _, rfl, rfl, rfl⟩
set_option maxRecDepth 100000 in
theorem xmc_TV_isStanza : xmc g_TV_isStanza := ⟨lw_gm 15 rfl rfl, lw_gm 466 rfl rfl, by decide +kernel, by decide +kernel, by decide +kernel⟩
set_option maxRecDepth 100000 in
theorem xmv_TV_isStanza : xmv g_TV_isStanza := ⟨xmc_TV_isStanza, lw_gm 465 rfl rfl, lw_gm 6 rfl rfl, _, _, rfl, rfl, rfl⟩
set_option maxRecDepth 100000 in
theorem xmc_TV_store : xmc g_TV_store := ⟨lw_gm 15 rfl rfl, lw_gm 288 rfl rfl, by decide +kernel, by decide +kernel, by decide +kernel⟩
set_option maxRecDepth 100000 in
theorem xmv_TV_store : xmv g_TV_store := ⟨xmc_TV_store, lw_gm 287 rfl rfl, lw_gm 0 rfl rfl, _, _, rfl, rfl, rfl⟩
set_option maxRecDepth 100000 in
theorem xmc_JI_bitCount : xmc g_JI_bitCount := ⟨lw_gm 29 rfl rfl, lw_gm 294 rfl rfl, by decide +kernel, by decide +kernel, by decide +kernel⟩
set_option maxRecDepth 100000 in
theorem xms_JI_bitCount : xms g_JI_bitCount := ⟨xmc_JI_bitCount, lw_gm 293 rfl rfl⟩
set_option maxRecDepth 100000 in
theorem xmc_JA_fill : xmc g_JA_fill := ⟨lw_gm 19 rfl rfl, lw_gm 89 rfl rfl, by decide +kernel, by decide +kernel, by decide +kernel⟩
set_option maxRecDepth 100000 in
theorem xms_JA_fill : xms g_JA_fill := ⟨xmc_JA_fill, lw_gm 88 rfl rfl⟩
set_option maxRecDepth 100000 in
theorem xmc_Law_cell : xmc g_Law_cell := ⟨lw_gm 14 rfl rfl, lw_gm 335 rfl rfl, by decide +kernel, by decide +kernel, by decide +kernel⟩
set_option maxRecDepth 100000 in
theorem xms_Law_cell : xms g_Law_cell := ⟨xmc_Law_cell, lw_gm 334 rfl rfl⟩
set_option maxRecDepth 100000 in
theorem xmc_Law_all : xmc g_Law_all := ⟨lw_gm 14 rfl rfl, lw_gm 340 rfl rfl, by decide +kernel, by decide +kernel, by decide +kernel⟩
set_option maxRecDepth 100000 in
theorem xms_Law_all : xms g_Law_all := ⟨xmc_Law_all, lw_gm 339 rfl rfl⟩
set_option maxRecDepth 100000 in
theorem xmc_Law_powers : xmc g_Law_powers := ⟨lw_gm 14 rfl rfl, lw_gm 343 rfl rfl, by decide +kernel, by decide +kernel, by decide +kernel⟩
set_option maxRecDepth 100000 in
theorem xms_Law_powers : xms g_Law_powers := ⟨xmc_Law_powers, lw_gm 342 rfl rfl⟩
set_option maxRecDepth 100000 in
theorem xmc_Law_products : xmc g_Law_products := ⟨lw_gm 14 rfl rfl, lw_gm 394 rfl rfl, by decide +kernel, by decide +kernel, by decide +kernel⟩
set_option maxRecDepth 100000 in
theorem xms_Law_products : xms g_Law_products := ⟨xmc_Law_products, lw_gm 393 rfl rfl⟩
set_option maxRecDepth 100000 in
theorem xmc_Law_roots : xmc g_Law_roots := ⟨lw_gm 14 rfl rfl, lw_gm 436 rfl rfl, by decide +kernel, by decide +kernel, by decide +kernel⟩
set_option maxRecDepth 100000 in
theorem xms_Law_roots : xms g_Law_roots := ⟨xmc_Law_roots, lw_gm 435 rfl rfl⟩
set_option maxRecDepth 100000 in
theorem xmc_Law_differences : xmc g_Law_differences := ⟨lw_gm 14 rfl rfl, lw_gm 578 rfl rfl, by decide +kernel, by decide +kernel, by decide +kernel⟩
set_option maxRecDepth 100000 in
theorem xms_Law_differences : xms g_Law_differences := ⟨xmc_Law_differences, lw_gm 577 rfl rfl⟩
set_option maxRecDepth 100000 in
theorem xmc_Law_mends : xmc g_Law_mends := ⟨lw_gm 14 rfl rfl, lw_gm 449 rfl rfl, by decide +kernel, by decide +kernel, by decide +kernel⟩
set_option maxRecDepth 100000 in
theorem xms_Law_mends : xms g_Law_mends := ⟨xmc_Law_mends, lw_gm 448 rfl rfl⟩
set_option maxRecDepth 100000 in
theorem fl_Fit_9 : xfl "TurningVerse$Fit" 9 0 0 := ⟨_, rfl, by decide, lw_gm 206 rfl rfl⟩
set_option maxRecDepth 100000 in
theorem nf_0_0 (g : xSig) : xfp g 0 0 := fun r hr hf => by cases hr; cases hf
set_option maxRecDepth 100000 in
theorem fl_Fit_15 : xfl "TurningVerse$Fit" 15 0 1 := ⟨_, rfl, by decide, lw_gm 207 rfl rfl⟩
set_option maxRecDepth 100000 in
theorem fl_Fit_19 : xfl "TurningVerse$Fit" 19 0 2 := ⟨_, rfl, by decide, lw_gm 208 rfl rfl⟩
set_option maxRecDepth 100000 in
theorem fl_Fit_22 : xfl "TurningVerse$Fit" 22 0 3 := ⟨_, rfl, by decide, lw_gm 209 rfl rfl⟩
set_option maxRecDepth 100000 in
theorem ml_Row_7 : Cond.methodLink "TurningVerse$Row" 7 (sgN g_Row_with) ∈ lw_g := lw_gm 86 rfl rfl
set_option maxRecDepth 100000 in
theorem ml_Row_13 : Cond.methodLink "TurningVerse$Row" 13 (sgN g_Row_entry) ∈ lw_g := lw_gm 305 rfl rfl
set_option maxRecDepth 100000 in
theorem ml_Fit_59 : Cond.methodLink "TurningVerse$Fit" 59 (sgN g_JA_fill) ∈ lw_g := lw_gm 499 rfl rfl
set_option maxRecDepth 100000 in
theorem ml_Fit_65 : Cond.methodLink "TurningVerse$Fit" 65 (sgN g_Row_ascending) ∈ lw_g := lw_gm 500 rfl rfl
set_option maxRecDepth 100000 in
theorem fl_Fit_33 : xfl "TurningVerse$Fit" 33 2 0 := ⟨_, rfl, by decide, lw_gm 51 rfl rfl⟩
set_option maxRecDepth 100000 in
theorem ml_Fit_68 : Cond.methodLink "TurningVerse$Fit" 68 (sgN g_Row_entry) ∈ lw_g := lw_gm 501 rfl rfl
set_option maxRecDepth 100000 in
theorem fl_Fit_71 : xfl "TurningVerse$Fit" 71 2 2 := ⟨_, rfl, by decide, lw_gm 55 rfl rfl⟩
set_option maxRecDepth 100000 in
theorem fl_Fit_74 : xfl "TurningVerse$Fit" 74 2 3 := ⟨_, rfl, by decide, lw_gm 58 rfl rfl⟩
set_option maxRecDepth 100000 in
theorem ml_Fit_77 : Cond.methodLink "TurningVerse$Fit" 77 (sgN g_Row_turned) ∈ lw_g := lw_gm 502 rfl rfl
set_option maxRecDepth 100000 in
theorem ml_Fit_80 : Cond.methodLink "TurningVerse$Fit" 80 (sgN g_JI_bitCount) ∈ lw_g := lw_gm 507 rfl rfl
set_option maxRecDepth 100000 in
theorem ml_Fit_85 : Cond.methodLink "TurningVerse$Fit" 85 (sgN g_Fit_keptWith) ∈ lw_g := lw_gm 508 rfl rfl
set_option maxRecDepth 100000 in
theorem ml_Fit_25 : Cond.methodLink "TurningVerse$Fit" 25 (sgN g_Fit_compare) ∈ lw_g := lw_gm 495 rfl rfl
set_option maxRecDepth 100000 in
theorem ml_Fit_29 : Cond.methodLink "TurningVerse$Fit" 29 (sgN g_Fit_mostKept) ∈ lw_g := lw_gm 503 rfl rfl
set_option maxRecDepth 100000 in
theorem ml_Fit_38 : Cond.methodLink "TurningVerse$Fit" 38 (sgN g_Fit_firstWord) ∈ lw_g := lw_gm 567 rfl rfl
set_option maxRecDepth 100000 in
theorem ml_Fit_42 : Cond.methodLink "TurningVerse$Fit" 42 (sgN g_Row_with) ∈ lw_g := lw_gm 571 rfl rfl
set_option maxRecDepth 100000 in
theorem ml_Perm_9 : Cond.methodLink "TurningVerse$Permutation" 9 (sgN g_Row_entry) ∈ lw_g := lw_gm 281 rfl rfl
set_option maxRecDepth 100000 in
theorem ml_Perm_21 : Cond.methodLink "TurningVerse$Permutation" 21 (sgN g_Row_with) ∈ lw_g := lw_gm 284 rfl rfl
set_option maxRecDepth 100000 in
theorem ml_Fit_93 : Cond.methodLink "TurningVerse$Fit" 93 (sgN g_Fit_mostOfLine) ∈ lw_g := lw_gm 542 rfl rfl
set_option maxRecDepth 100000 in
theorem ml_Fit_96 : Cond.methodLink "TurningVerse$Fit" 96 (sgN g_Fit_mostOfWord) ∈ lw_g := lw_gm 546 rfl rfl
set_option maxRecDepth 100000 in
theorem ml_Fit_48 : Cond.methodLink "TurningVerse$Fit" 48 (sgN g_Perm_count) ∈ lw_g := lw_gm 536 rfl rfl
set_option maxRecDepth 100000 in
theorem ml_Fit_53 : Cond.methodLink "TurningVerse$Fit" 53 (sgN g_Perm_numbered) ∈ lw_g := lw_gm 537 rfl rfl
set_option maxRecDepth 100000 in
theorem ml_Fit_56 : Cond.methodLink "TurningVerse$Fit" 56 (sgN g_Fit_atMostKept) ∈ lw_g := lw_gm 538 rfl rfl
set_option maxRecDepth 100000 in
theorem fl_Poem_9 : xfl "TurningVerse$Poem" 9 2 0 := ⟨_, rfl, by decide, lw_gm 50 rfl rfl⟩
set_option maxRecDepth 100000 in
theorem nf_2_0 (g : xSig) : xfp g 2 0 := fun r hr hf => by cases hr; cases hf
set_option maxRecDepth 100000 in
theorem fl_Poem_15 : xfl "TurningVerse$Poem" 15 2 1 := ⟨_, rfl, by decide, lw_gm 53 rfl rfl⟩
set_option maxRecDepth 100000 in
theorem nf_2_1 (g : xSig) : xfp g 2 1 := fun r hr hf => by cases hr; cases hf
set_option maxRecDepth 100000 in
theorem fl_Poem_18 : xfl "TurningVerse$Poem" 18 2 2 := ⟨_, rfl, by decide, lw_gm 54 rfl rfl⟩
set_option maxRecDepth 100000 in
theorem fl_Poem_22 : xfl "TurningVerse$Poem" 22 2 3 := ⟨_, rfl, by decide, lw_gm 57 rfl rfl⟩
set_option maxRecDepth 100000 in
theorem fl_Poem_25 : xfl "TurningVerse$Poem" 25 2 4 := ⟨_, rfl, by decide, lw_gm 60 rfl rfl⟩
set_option maxRecDepth 100000 in
theorem fl_Poem_28 : xfl "TurningVerse$Poem" 28 2 5 := ⟨_, rfl, by decide, lw_gm 61 rfl rfl⟩
set_option maxRecDepth 100000 in
theorem fl_Sta_26 : xfl "TurningVerse$State" 26 5 0 := ⟨_, rfl, by decide, lw_gm 94 rfl rfl⟩
set_option maxRecDepth 100000 in
theorem nf_5_0 (g : xSig) : xfp g 5 0 := fun r hr hf => by cases hr; cases hf
set_option maxRecDepth 100000 in
theorem fl_Sta_30 : xfl "TurningVerse$State" 30 5 1 := ⟨_, rfl, by decide, lw_gm 97 rfl rfl⟩
set_option maxRecDepth 100000 in
theorem nf_5_1 (g : xSig) : xfp g 5 1 := fun r hr hf => by cases hr; cases hf
set_option maxRecDepth 100000 in
theorem ml_Sta_33 : Cond.methodLink "TurningVerse$State" 33 (sgN g_Row_with) ∈ lw_g := lw_gm 80 rfl rfl
set_option maxRecDepth 100000 in
theorem fl_Sta_9 : xfl "TurningVerse$State" 9 5 2 := ⟨_, rfl, by decide, lw_gm 98 rfl rfl⟩
set_option maxRecDepth 100000 in
theorem ml_Sta_39 : Cond.methodLink "TurningVerse$State" 39 (sgN g_Row_ascending) ∈ lw_g := lw_gm 83 rfl rfl
set_option maxRecDepth 100000 in
theorem ml_Sta_43 : Cond.methodLink "TurningVerse$State" 43 (sgN g_JA_fill) ∈ lw_g := lw_gm 87 rfl rfl
set_option maxRecDepth 100000 in
theorem fl_Sta_18 : xfl "TurningVerse$State" 18 5 3 := ⟨_, rfl, by decide, lw_gm 101 rfl rfl⟩
set_option maxRecDepth 100000 in
theorem ml_Sta_49 : Cond.methodLink "TurningVerse$State" 49 (sgN g_Poem_empty) ∈ lw_g := lw_gm 90 rfl rfl
set_option maxRecDepth 100000 in
theorem ml_Sta_17 : Cond.methodLink "TurningVerse$State" 17 (sgN g_Poem_init) ∈ lw_g := lw_gm 46 rfl rfl
set_option maxRecDepth 100000 in
theorem ml_Sta_22 : Cond.methodLink "TurningVerse$State" 22 (sgN g_Sta_startWith) ∈ lw_g := lw_gm 76 rfl rfl
set_option maxRecDepth 100000 in
theorem fl_Hist_9 : xfl "TurningVerse$History" 9 1 0 := ⟨_, rfl, by decide, lw_gm 121 rfl rfl⟩
set_option maxRecDepth 100000 in
theorem nf_1_0 (g : xSig) : xfp g 1 0 := fun r hr hf => by cases hr; cases hf
set_option maxRecDepth 100000 in
theorem fl_Hist_15 : xfl "TurningVerse$History" 15 1 1 := ⟨_, rfl, by decide, lw_gm 123 rfl rfl⟩
set_option maxRecDepth 100000 in
theorem nf_1_1 (g : xSig) : xfp g 1 1 := fun r hr hf => by cases hr; cases hf
set_option maxRecDepth 100000 in
theorem fl_Hist_20 : xfl "TurningVerse$History" 20 1 2 := ⟨_, rfl, by decide, lw_gm 124 rfl rfl⟩
set_option maxRecDepth 100000 in
theorem ml_Hist_24 : Cond.methodLink "TurningVerse$History" 24 (sgN g_Sta_init) ∈ lw_g := lw_gm 120 rfl rfl
set_option maxRecDepth 100000 in
theorem ml_Sta_58 : Cond.methodLink "TurningVerse$State" 58 (sgN g_Poem_copyFrom) ∈ lw_g := lw_gm 259 rfl rfl
set_option maxRecDepth 100000 in
theorem ml_Hist_25 : Cond.methodLink "TurningVerse$History" 25 (sgN g_Sta_copyFrom) ∈ lw_g := lw_gm 252 rfl rfl
set_option maxRecDepth 100000 in
theorem ml_Perm_15 : Cond.methodLink "TurningVerse$Permutation" 15 (sgN g_JI_bitCount) ∈ lw_g := lw_gm 292 rfl rfl
set_option maxRecDepth 100000 in
theorem ml_Perm_31 : Cond.methodLink "TurningVerse$Permutation" 31 (sgN g_Perm_lineOfWeave) ∈ lw_g := lw_gm 431 rfl rfl
set_option maxRecDepth 100000 in
theorem ml_Perm_25 : Cond.methodLink "TurningVerse$Permutation" 25 (sgN g_Perm_lineOfKind) ∈ lw_g := lw_gm 428 rfl rfl
set_option maxRecDepth 100000 in
theorem ml_Perm_34 : Cond.methodLink "TurningVerse$Permutation" 34 (sgN g_Row_ascending) ∈ lw_g := lw_gm 301 rfl rfl
set_option maxRecDepth 100000 in
theorem ml_Perm_37 : Cond.methodLink "TurningVerse$Permutation" 37 (sgN g_Row_turned) ∈ lw_g := lw_gm 302 rfl rfl
set_option maxRecDepth 100000 in
theorem ml_Perm_40 : Cond.methodLink "TurningVerse$Permutation" 40 (sgN g_Perm_count) ∈ lw_g := lw_gm 444 rfl rfl
set_option maxRecDepth 100000 in
theorem ml_Perm_43 : Cond.methodLink "TurningVerse$Permutation" 43 (sgN g_Perm_numbered) ∈ lw_g := lw_gm 445 rfl rfl
set_option maxRecDepth 100000 in
theorem ml_Perm_46 : Cond.methodLink "TurningVerse$Permutation" 46 (sgN g_Perm_repeated) ∈ lw_g := lw_gm 446 rfl rfl
set_option maxRecDepth 100000 in
theorem ml_Perm_67 : Cond.methodLink "TurningVerse$Permutation" 67 (sgN g_Perm_cycleOf) ∈ lw_g := lw_gm 318 rfl rfl
set_option maxRecDepth 100000 in
theorem ml_Perm_49 : Cond.methodLink "TurningVerse$Permutation" 49 (sgN g_Perm_number) ∈ lw_g := lw_gm 313 rfl rfl
set_option maxRecDepth 100000 in
theorem ml_Perm_52 : Cond.methodLink "TurningVerse$Permutation" 52 (sgN g_Perm_order) ∈ lw_g := lw_gm 314 rfl rfl
set_option maxRecDepth 100000 in
theorem ml_Perm_55 : Cond.methodLink "TurningVerse$Permutation" 55 (sgN g_Perm_cycles) ∈ lw_g := lw_gm 315 rfl rfl
set_option maxRecDepth 100000 in
theorem ml_Perm_58 : Cond.methodLink "TurningVerse$Permutation" 58 (sgN g_Perm_fixedLines) ∈ lw_g := lw_gm 321 rfl rfl
set_option maxRecDepth 100000 in
theorem ml_Perm_61 : Cond.methodLink "TurningVerse$Permutation" 61 (sgN g_Perm_longestCycle) ∈ lw_g := lw_gm 324 rfl rfl
set_option maxRecDepth 100000 in
theorem ml_Perm_64 : Cond.methodLink "TurningVerse$Permutation" 64 (sgN g_Perm_cycleType) ∈ lw_g := lw_gm 330 rfl rfl
set_option maxRecDepth 100000 in
theorem ml_Row_17 : Cond.methodLink "TurningVerse$Row" 17 (sgN g_Row_entries) ∈ lw_g := lw_gm 470 rfl rfl
set_option maxRecDepth 100000 in
theorem ml_Poem_37 : Cond.methodLink "TurningVerse$Poem" 37 (sgN g_Row_hasEach) ∈ lw_g := lw_gm 485 rfl rfl
set_option maxRecDepth 100000 in
theorem ml_Poem_43 : Cond.methodLink "TurningVerse$Poem" 43 (sgN g_JI_bitCount) ∈ lw_g := lw_gm 588 rfl rfl
set_option maxRecDepth 100000 in
theorem ml_Poem_49 : Cond.methodLink "TurningVerse$Poem" 49 (sgN g_Perm_inverse) ∈ lw_g := lw_gm 521 rfl rfl
set_option maxRecDepth 100000 in
theorem ml_Poem_55 : Cond.methodLink "TurningVerse$Poem" 55 (sgN g_Row_turned) ∈ lw_g := lw_gm 486 rfl rfl
set_option maxRecDepth 100000 in
theorem ml_Poem_59 : Cond.methodLink "TurningVerse$Poem" 59 (sgN g_Poem_properStanzas) ∈ lw_g := lw_gm 481 rfl rfl
set_option maxRecDepth 100000 in
theorem ml_PR_11 : Cond.methodLink "TurningVerse$PoemReader" 11 (sgN g_Poem_init) ∈ lw_g := lw_gm 153 rfl rfl
set_option maxRecDepth 100000 in
theorem fl_PR_12 : xfl "TurningVerse$PoemReader" 12 3 1 := ⟨_, rfl, by decide, lw_gm 155 rfl rfl⟩
set_option maxRecDepth 100000 in
theorem fl_PR_18 : xfl "TurningVerse$PoemReader" 18 3 0 := ⟨_, rfl, by decide, lw_gm 154 rfl rfl⟩
set_option maxRecDepth 100000 in
theorem nf_3_0 (g : xSig) : xfp g 3 0 := fun r hr hf => by cases hr; cases hf
set_option maxRecDepth 100000 in
theorem fl_PR_22 : xfl "TurningVerse$PoemReader" 22 3 2 := ⟨_, rfl, by decide, lw_gm 156 rfl rfl⟩
set_option maxRecDepth 100000 in
theorem nf_3_2 (g : xSig) : xfp g 3 2 := fun r hr hf => by cases hr; cases hf
set_option maxRecDepth 100000 in
theorem fl_Sea_9 : xfl "TurningVerse$Search" 9 4 0 := ⟨_, rfl, by decide, lw_gm 180 rfl rfl⟩
set_option maxRecDepth 100000 in
theorem nf_4_0 (g : xSig) : xfp g 4 0 := fun r hr hf => by cases hr; cases hf
set_option maxRecDepth 100000 in
theorem fl_Sea_15 : xfl "TurningVerse$Search" 15 4 1 := ⟨_, rfl, by decide, lw_gm 182 rfl rfl⟩
set_option maxRecDepth 100000 in
theorem nf_4_1 (g : xSig) : xfp g 4 1 := fun r hr hf => by cases hr; cases hf
set_option maxRecDepth 100000 in
theorem fl_Sea_18 : xfl "TurningVerse$Search" 18 4 2 := ⟨_, rfl, by decide, lw_gm 183 rfl rfl⟩
set_option maxRecDepth 100000 in
theorem nf_4_2 (g : xSig) : xfp g 4 2 := fun r hr hf => by cases hr; cases hf
set_option maxRecDepth 100000 in
theorem fl_Sea_21 : xfl "TurningVerse$Search" 21 4 3 := ⟨_, rfl, by decide, lw_gm 184 rfl rfl⟩
set_option maxRecDepth 100000 in
theorem fl_Sea_25 : xfl "TurningVerse$Search" 25 4 4 := ⟨_, rfl, by decide, lw_gm 185 rfl rfl⟩
set_option maxRecDepth 100000 in
theorem fl_Sea_28 : xfl "TurningVerse$Search" 28 4 5 := ⟨_, rfl, by decide, lw_gm 186 rfl rfl⟩
set_option maxRecDepth 100000 in
theorem ml_Sea_70 : Cond.methodLink "TurningVerse$Search" 70 (sgN g_Perm_number) ∈ lw_g := lw_gm 377 rfl rfl
set_option maxRecDepth 100000 in
theorem fl_Sea_31 : xfl "TurningVerse$Search" 31 5 0 := ⟨_, rfl, by decide, lw_gm 95 rfl rfl⟩
set_option maxRecDepth 100000 in
theorem fl_Sea_34 : xfl "TurningVerse$Search" 34 5 2 := ⟨_, rfl, by decide, lw_gm 99 rfl rfl⟩
set_option maxRecDepth 100000 in
theorem ml_Sea_43 : Cond.methodLink "TurningVerse$Search" 43 (sgN g_JA_fill) ∈ lw_g := lw_gm 371 rfl rfl
set_option maxRecDepth 100000 in
theorem ml_Sea_49 : Cond.methodLink "TurningVerse$Search" 49 (sgN g_Row_ascending) ∈ lw_g := lw_gm 372 rfl rfl
set_option maxRecDepth 100000 in
theorem ml_Sea_55 : Cond.methodLink "TurningVerse$Search" 55 (sgN g_Sea_note) ∈ lw_g := lw_gm 373 rfl rfl
set_option maxRecDepth 100000 in
theorem ml_Sea_59 : Cond.methodLink "TurningVerse$Search" 59 (sgN g_Sea_depthOf) ∈ lw_g := lw_gm 378 rfl rfl
set_option maxRecDepth 100000 in
theorem ml_Sea_62 : Cond.methodLink "TurningVerse$Search" 62 (sgN g_Sea_isFactor) ∈ lw_g := lw_gm 382 rfl rfl
set_option maxRecDepth 100000 in
theorem ml_Sea_66 : Cond.methodLink "TurningVerse$Search" 66 (sgN g_Row_turned) ∈ lw_g := lw_gm 386 rfl rfl
set_option maxRecDepth 100000 in
theorem ml_Sea_82 : Cond.methodLink "TurningVerse$Search" 82 (sgN g_Perm_inverse) ∈ lw_g := lw_gm 416 rfl rfl
set_option maxRecDepth 100000 in
theorem ml_Sea_79 : Cond.methodLink "TurningVerse$Search" 79 (sgN g_Sea_without) ∈ lw_g := lw_gm 412 rfl rfl
set_option maxRecDepth 100000 in
theorem ml_Sea_76 : Cond.methodLink "TurningVerse$Search" 76 (sgN g_Sea_firstFactor) ∈ lw_g := lw_gm 408 rfl rfl
set_option maxRecDepth 100000 in
theorem fl_Txt_9 : xfl "TurningVerse$Text" 9 6 0 := ⟨_, rfl, by decide, lw_gm 138 rfl rfl⟩
set_option maxRecDepth 100000 in
theorem nf_6_0 (g : xSig) : xfp g 6 0 := fun r hr hf => by cases hr; cases hf
set_option maxRecDepth 100000 in
theorem fl_Txt_15 : xfl "TurningVerse$Text" 15 6 1 := ⟨_, rfl, by decide, lw_gm 140 rfl rfl⟩
set_option maxRecDepth 100000 in
theorem fl_TR_9 : xfl "TurningVerse$TurnReader" 9 7 0 := ⟨_, rfl, by decide, lw_gm 170 rfl rfl⟩
set_option maxRecDepth 100000 in
theorem nf_7_0 (g : xSig) : xfp g 7 0 := fun r hr hf => by cases hr; cases hf
set_option maxRecDepth 100000 in
theorem ml_TV_11 : Cond.methodLink "TurningVerse" 11 (sgN g_Sta_init) ∈ lw_g := lw_gm 40 rfl rfl
set_option maxRecDepth 100000 in
theorem fl_TV_12 : xfl "TurningVerse" 12 8 0 := ⟨_, rfl, by decide, lw_gm 219 rfl rfl⟩
set_option maxRecDepth 100000 in
theorem ml_TV_18 : Cond.methodLink "TurningVerse" 18 (sgN g_Hist_init) ∈ lw_g := lw_gm 114 rfl rfl
set_option maxRecDepth 100000 in
theorem fl_TV_19 : xfl "TurningVerse" 19 8 1 := ⟨_, rfl, by decide, lw_gm 220 rfl rfl⟩
set_option maxRecDepth 100000 in
theorem ml_TV_25 : Cond.methodLink "TurningVerse" 25 (sgN g_Txt_init) ∈ lw_g := lw_gm 134 rfl rfl
set_option maxRecDepth 100000 in
theorem fl_TV_26 : xfl "TurningVerse" 26 8 2 := ⟨_, rfl, by decide, lw_gm 221 rfl rfl⟩
set_option maxRecDepth 100000 in
theorem ml_TV_32 : Cond.methodLink "TurningVerse" 32 (sgN g_PR_init) ∈ lw_g := lw_gm 148 rfl rfl
set_option maxRecDepth 100000 in
theorem fl_TV_33 : xfl "TurningVerse" 33 8 3 := ⟨_, rfl, by decide, lw_gm 222 rfl rfl⟩
set_option maxRecDepth 100000 in
theorem ml_TV_39 : Cond.methodLink "TurningVerse" 39 (sgN g_TR_init) ∈ lw_g := lw_gm 166 rfl rfl
set_option maxRecDepth 100000 in
theorem fl_TV_40 : xfl "TurningVerse" 40 8 4 := ⟨_, rfl, by decide, lw_gm 223 rfl rfl⟩
set_option maxRecDepth 100000 in
theorem ml_TV_46 : Cond.methodLink "TurningVerse" 46 (sgN g_Sea_init) ∈ lw_g := lw_gm 176 rfl rfl
set_option maxRecDepth 100000 in
theorem fl_TV_47 : xfl "TurningVerse" 47 8 5 := ⟨_, rfl, by decide, lw_gm 224 rfl rfl⟩
set_option maxRecDepth 100000 in
theorem ml_TV_53 : Cond.methodLink "TurningVerse" 53 (sgN g_Fit_init) ∈ lw_g := lw_gm 202 rfl rfl
set_option maxRecDepth 100000 in
theorem fl_TV_54 : xfl "TurningVerse" 54 8 6 := ⟨_, rfl, by decide, lw_gm 225 rfl rfl⟩
set_option maxRecDepth 100000 in
theorem fl_TV_58 : xfl "TurningVerse" 58 8 7 := ⟨_, rfl, by decide, lw_gm 226 rfl rfl⟩
set_option maxRecDepth 100000 in
theorem ml_TV_62 : Cond.methodLink "TurningVerse" 62 (sgN g_Hist_remember) ∈ lw_g := lw_gm 248 rfl rfl
set_option maxRecDepth 100000 in
theorem fl_TV_66 : xfl "TurningVerse" 66 5 0 := ⟨_, rfl, by decide, lw_gm 96 rfl rfl⟩
set_option maxRecDepth 100000 in
theorem ml_TV_70 : Cond.methodLink "TurningVerse" 70 (sgN g_Sta_startWith) ∈ lw_g := lw_gm 267 rfl rfl
set_option maxRecDepth 100000 in
theorem fl_TV_133 : xfl "TurningVerse" 133 5 2 := ⟨_, rfl, by decide, lw_gm 100 rfl rfl⟩
set_option maxRecDepth 100000 in
theorem ml_TV_201 : Cond.methodLink "TurningVerse" 201 (sgN g_Perm_number) ∈ lw_g := lw_gm 289 rfl rfl
set_option maxRecDepth 100000 in
theorem ml_TV_116 : Cond.methodLink "TurningVerse" 116 (sgN g_TV_isRegister) ∈ lw_g := lw_gm 272 rfl rfl
set_option maxRecDepth 100000 in
theorem ml_TV_74 : Cond.methodLink "TurningVerse" 74 (sgN g_TV_isLine) ∈ lw_g := lw_gm 421 rfl rfl
set_option maxRecDepth 100000 in
theorem ml_TV_128 : Cond.methodLink "TurningVerse" 128 (sgN g_Perm_ofKind) ∈ lw_g := lw_gm 425 rfl rfl
set_option maxRecDepth 100000 in
theorem ml_TV_125 : Cond.methodLink "TurningVerse" 125 (sgN g_TV_store) ∈ lw_g := lw_gm 285 rfl rfl
set_option maxRecDepth 100000 in
theorem ml_TV_136 : Cond.methodLink "TurningVerse" 136 (sgN g_Row_turned) ∈ lw_g := lw_gm 391 rfl rfl
set_option maxRecDepth 100000 in
theorem ml_TV_141 : Cond.methodLink "TurningVerse" 141 (sgN g_Perm_inverse) ∈ lw_g := lw_gm 350 rfl rfl
set_option maxRecDepth 100000 in
theorem ml_TV_150 : Cond.methodLink "TurningVerse" 150 (sgN g_Perm_repeated) ∈ lw_g := lw_gm 356 rfl rfl
set_option maxRecDepth 100000 in
theorem ml_TV_153 : Cond.methodLink "TurningVerse" 153 (sgN g_Perm_count) ∈ lw_g := lw_gm 275 rfl rfl
set_option maxRecDepth 100000 in
theorem ml_TV_155 : Cond.methodLink "TurningVerse" 155 (sgN g_Perm_numbered) ∈ lw_g := lw_gm 278 rfl rfl
set_option maxRecDepth 100000 in
theorem ml_TV_158 : Cond.methodLink "TurningVerse" 158 (sgN g_Perm_order) ∈ lw_g := lw_gm 298 rfl rfl
set_option maxRecDepth 100000 in
theorem ml_TV_161 : Cond.methodLink "TurningVerse" 161 (sgN g_Perm_firstRoot) ∈ lw_g := lw_gm 441 rfl rfl
set_option maxRecDepth 100000 in
theorem ml_TV_164 : Cond.methodLink "TurningVerse" 164 (sgN g_Perm_property) ∈ lw_g := lw_gm 310 rfl rfl
set_option maxRecDepth 100000 in
theorem ml_TV_167 : Cond.methodLink "TurningVerse" 167 (sgN g_TV_isSetOfRegisters) ∈ lw_g := lw_gm 363 rfl rfl
set_option maxRecDepth 100000 in
theorem ml_TV_170 : Cond.methodLink "TurningVerse" 170 (sgN g_Sea_spread) ∈ lw_g := lw_gm 366 rfl rfl
set_option maxRecDepth 100000 in
theorem fl_TV_174 : xfl "TurningVerse" 174 4 0 := ⟨_, rfl, by decide, lw_gm 181 rfl rfl⟩
set_option maxRecDepth 100000 in
theorem ml_TV_175 : Cond.methodLink "TurningVerse" 175 (sgN g_Sea_depthOf) ∈ lw_g := lw_gm 399 rfl rfl
set_option maxRecDepth 100000 in
theorem ml_TV_178 : Cond.methodLink "TurningVerse" 178 (sgN g_Sea_factorAt) ∈ lw_g := lw_gm 404 rfl rfl
set_option maxRecDepth 100000 in
theorem fl_TV_102 : xfl "TurningVerse" 102 5 3 := ⟨_, rfl, by decide, lw_gm 102 rfl rfl⟩
set_option maxRecDepth 100000 in
theorem fl_TV_113 : xfl "TurningVerse" 113 2 0 := ⟨_, rfl, by decide, lw_gm 52 rfl rfl⟩
set_option maxRecDepth 100000 in
theorem ml_TV_181 : Cond.methodLink "TurningVerse" 181 (sgN g_Row_ascending) ∈ lw_g := lw_gm 454 rfl rfl
set_option maxRecDepth 100000 in
theorem ml_TV_184 : Cond.methodLink "TurningVerse" 184 (sgN g_Poem_append) ∈ lw_g := lw_gm 455 rfl rfl
set_option maxRecDepth 100000 in
theorem fl_TV_185 : xfl "TurningVerse" 185 2 2 := ⟨_, rfl, by decide, lw_gm 56 rfl rfl⟩
set_option maxRecDepth 100000 in
theorem ml_TV_188 : Cond.methodLink "TurningVerse" 188 (sgN g_TV_isStanza) ∈ lw_g := lw_gm 463 rfl rfl
set_option maxRecDepth 100000 in
theorem ml_TV_87 : Cond.methodLink "TurningVerse" 87 (sgN g_Row_with) ∈ lw_g := lw_gm 526 rfl rfl
set_option maxRecDepth 100000 in
theorem ml_TV_81 : Cond.methodLink "TurningVerse" 81 (sgN g_Row_entry) ∈ lw_g := lw_gm 527 rfl rfl
set_option maxRecDepth 100000 in
theorem fl_TV_191 : xfl "TurningVerse" 191 2 3 := ⟨_, rfl, by decide, lw_gm 59 rfl rfl⟩
set_option maxRecDepth 100000 in
theorem ml_TV_194 : Cond.methodLink "TurningVerse" 194 (sgN g_Row_hasEach) ∈ lw_g := lw_gm 467 rfl rfl
set_option maxRecDepth 100000 in
theorem ml_TV_198 : Cond.methodLink "TurningVerse" 198 (sgN g_Poem_turnBehind) ∈ lw_g := lw_gm 517 rfl rfl
set_option maxRecDepth 100000 in
theorem ml_TV_204 : Cond.methodLink "TurningVerse" 204 (sgN g_Poem_turnsBy) ∈ lw_g := lw_gm 477 rfl rfl
set_option maxRecDepth 100000 in
theorem ml_TV_207 : Cond.methodLink "TurningVerse" 207 (sgN g_Fit_changes) ∈ lw_g := lw_gm 491 rfl rfl
set_option maxRecDepth 100000 in
theorem ml_TV_211 : Cond.methodLink "TurningVerse" 211 (sgN g_Fit_firstRow) ∈ lw_g := lw_gm 563 rfl rfl
set_option maxRecDepth 100000 in
theorem ml_TV_215 : Cond.methodLink "TurningVerse" 215 (sgN g_Poem_rewrite) ∈ lw_g := lw_gm 572 rfl rfl
set_option maxRecDepth 100000 in
theorem ml_TV_219 : Cond.methodLink "TurningVerse" 219 (sgN g_Fit_bestPermutation) ∈ lw_g := lw_gm 532 rfl rfl
set_option maxRecDepth 100000 in
theorem ml_TV_258 : Cond.methodLink "TurningVerse" 258 (sgN g_Poem_properStanzas) ∈ lw_g := lw_gm 583 rfl rfl
set_option maxRecDepth 100000 in
theorem ml_TV_261 : Cond.methodLink "TurningVerse" 261 (sgN g_Poem_lockedPlaces) ∈ lw_g := lw_gm 584 rfl rfl
set_option maxRecDepth 100000 in
theorem fl_TV_91 : xfl "TurningVerse" 91 6 0 := ⟨_, rfl, by decide, lw_gm 139 rfl rfl⟩
set_option maxRecDepth 100000 in
theorem fl_TV_264 : xfl "TurningVerse" 264 1 0 := ⟨_, rfl, by decide, lw_gm 122 rfl rfl⟩
set_option maxRecDepth 100000 in
theorem ml_TV_265 : Cond.methodLink "TurningVerse" 265 (sgN g_Hist_restore) ∈ lw_g := lw_gm 593 rfl rfl
set_option maxRecDepth 100000 in
theorem ml_Law_15 : Cond.methodLink "TurningVerseLaw" 15 (sgN g_TV_turn) ∈ lw_g := lw_gm 306 rfl rfl
set_option maxRecDepth 100000 in
theorem ml_Law_21 : Cond.methodLink "TurningVerseLaw" 21 (sgN g_TV_power) ∈ lw_g := lw_gm 344 rfl rfl
set_option maxRecDepth 100000 in
theorem ml_Law_25 : Cond.methodLink "TurningVerseLaw" 25 (sgN g_TV_generated) ∈ lw_g := lw_gm 359 rfl rfl
set_option maxRecDepth 100000 in
theorem ml_Law_28 : Cond.methodLink "TurningVerseLaw" 28 (sgN g_TV_product) ∈ lw_g := lw_gm 387 rfl rfl
set_option maxRecDepth 100000 in
theorem ml_Law_9 : Cond.methodLink "TurningVerseLaw" 9 (sgN g_Law_all) ∈ lw_g := lw_gm 338 rfl rfl
set_option maxRecDepth 100000 in
theorem ml_Law_31 : Cond.methodLink "TurningVerseLaw" 31 (sgN g_TV_unrank) ∈ lw_g := lw_gm 268 rfl rfl
set_option maxRecDepth 100000 in
theorem ml_Law_34 : Cond.methodLink "TurningVerseLaw" 34 (sgN g_TV_reach) ∈ lw_g := lw_gm 395 rfl rfl
set_option maxRecDepth 100000 in
theorem ml_Law_37 : Cond.methodLink "TurningVerseLaw" 37 (sgN g_TV_factor) ∈ lw_g := lw_gm 400 rfl rfl
set_option maxRecDepth 100000 in
theorem ml_Law_40 : Cond.methodLink "TurningVerseLaw" 40 (sgN g_TV_make) ∈ lw_g := lw_gm 417 rfl rfl
set_option maxRecDepth 100000 in
theorem ml_Law_43 : Cond.methodLink "TurningVerseLaw" 43 (sgN g_TV_root) ∈ lw_g := lw_gm 437 rfl rfl
set_option maxRecDepth 100000 in
theorem ml_Law_46 : Cond.methodLink "TurningVerseLaw" 46 (sgN g_TV_told) ∈ lw_g := lw_gm 579 rfl rfl
set_option maxRecDepth 100000 in
theorem ml_Law_49 : Cond.methodLink "TurningVerseLaw" 49 (sgN g_TV_word) ∈ lw_g := lw_gm 551 rfl rfl
set_option maxRecDepth 100000 in
theorem ml_Law_52 : Cond.methodLink "TurningVerseLaw" 52 (sgN g_Law_cell) ∈ lw_g := lw_gm 333 rfl rfl
set_option maxRecDepth 100000 in
theorem ml_Law_56 : Cond.methodLink "TurningVerseLaw" 56 (sgN g_TV_add) ∈ lw_g := lw_gm 450 rfl rfl
set_option maxRecDepth 100000 in
theorem ml_Law_59 : Cond.methodLink "TurningVerseLaw" 59 (sgN g_TV_proper) ∈ lw_g := lw_gm 459 rfl rfl
set_option maxRecDepth 100000 in
theorem ml_Law_62 : Cond.methodLink "TurningVerseLaw" 62 (sgN g_TV_follows) ∈ lw_g := lw_gm 473 rfl rfl
set_option maxRecDepth 100000 in
theorem ml_Law_65 : Cond.methodLink "TurningVerseLaw" 65 (sgN g_TV_cost) ∈ lw_g := lw_gm 487 rfl rfl
set_option maxRecDepth 100000 in
theorem ml_Law_68 : Cond.methodLink "TurningVerseLaw" 68 (sgN g_TV_common) ∈ lw_g := lw_gm 513 rfl rfl
set_option maxRecDepth 100000 in
theorem ml_Law_71 : Cond.methodLink "TurningVerseLaw" 71 (sgN g_TV_put) ∈ lw_g := lw_gm 522 rfl rfl
set_option maxRecDepth 100000 in
theorem ml_Law_74 : Cond.methodLink "TurningVerseLaw" 74 (sgN g_TV_best) ∈ lw_g := lw_gm 528 rfl rfl
set_option maxRecDepth 100000 in
theorem ml_Law_77 : Cond.methodLink "TurningVerseLaw" 77 (sgN g_TV_lock) ∈ lw_g := lw_gm 555 rfl rfl
set_option maxRecDepth 100000 in
theorem ml_Law_81 : Cond.methodLink "TurningVerseLaw" 81 (sgN g_TV_mend) ∈ lw_g := lw_gm 559 rfl rfl
set_option maxRecDepth 100000 in
theorem ml_Law_84 : Cond.methodLink "TurningVerseLaw" 84 (sgN g_Law_differences) ∈ lw_g := lw_gm 576 rfl rfl
set_option maxRecDepth 100000 in
theorem ml_Law_88 : Cond.methodLink "TurningVerseLaw" 88 (sgN g_TV_undo) ∈ lw_g := lw_gm 589 rfl rfl
set_option maxRecDepth 100000 in
theorem ml_Law_92 : Cond.methodLink "TurningVerseLaw" 92 (sgN g_TV_turning) ∈ lw_g := lw_gm 597 rfl rfl
set_option maxRecDepth 100000 in
theorem ml_Law_95 : Cond.methodLink "TurningVerseLaw" 95 (sgN g_TV_drop) ∈ lw_g := lw_gm 601 rfl rfl
set_option maxRecDepth 100000 in
theorem ml_Law_98 : Cond.methodLink "TurningVerseLaw" 98 (sgN g_TV_init) ∈ lw_g := lw_gm 32 rfl rfl
set_option maxRecDepth 100000 in
theorem ml_Law_99 : Cond.methodLink "TurningVerseLaw" 99 (sgN g_TV_setWords) ∈ lw_g := lw_gm 244 rfl rfl
set_option maxRecDepth 100000 in
theorem ml_Law_102 : Cond.methodLink "TurningVerseLaw" 102 (sgN g_Law_powers) ∈ lw_g := lw_gm 341 rfl rfl
set_option maxRecDepth 100000 in
theorem ml_Law_106 : Cond.methodLink "TurningVerseLaw" 106 (sgN g_Law_products) ∈ lw_g := lw_gm 392 rfl rfl
set_option maxRecDepth 100000 in
theorem ml_Law_110 : Cond.methodLink "TurningVerseLaw" 110 (sgN g_Law_roots) ∈ lw_g := lw_gm 434 rfl rfl
set_option maxRecDepth 100000 in
theorem ml_Law_114 : Cond.methodLink "TurningVerseLaw" 114 (sgN g_Law_mends) ∈ lw_g := lw_gm 447 rfl rfl
end
section
/-! CODE, decoded, with its links; checked once -/
def k_JA_fill : xCd := [
  (0, .iconst 0, 1, .inr (.inr (.inl (nI 0)))),
  (1, .istore_n 2, 1, .inl (0, 0)),
  (2, .aload_n 0, 1, .inl (0, 0)),
  (3, .arraylength, 1, .inl (0, 0)),
  (4, .istore_n 3, 1, .inl (0, 0)),
  (5, .iload_n 2, 1, .inl (0, 0)),
  (6, .iload_n 3, 1, .inl (0, 0)),
  (7, .if_icmp .ge 13, 3, .inl (20, 0)),
  (10, .aload_n 0, 1, .inl (0, 0)),
  (11, .iload_n 2, 1, .inl (0, 0)),
  (12, .iload_n 1, 1, .inl (0, 0)),
  (13, .iastore, 1, .inl (0, 0)),
  (14, .iinc 2 1, 3, .inr (.inr (.inl (nI 1)))),
  (17, .goto (-12), 3, .inl (5, 0)),
  (20, .return_, 1, .inl (0, 0))]
set_option maxRecDepth 100000 in
set_option maxHeartbeats 4000000 in
theorem ok_JA_fill : xOK g_JA_fill k_JA_fill := ⟨by decide +kernel, by decide +kernel, List.forall_mem_cons.mpr ⟨trivial, List.forall_mem_cons.mpr ⟨trivial, List.forall_mem_cons.mpr ⟨trivial, List.forall_mem_cons.mpr ⟨trivial, List.forall_mem_cons.mpr ⟨trivial, List.forall_mem_cons.mpr ⟨trivial, List.forall_mem_cons.mpr ⟨trivial, List.forall_mem_cons.mpr ⟨trivial, List.forall_mem_cons.mpr ⟨trivial, List.forall_mem_cons.mpr ⟨trivial, List.forall_mem_cons.mpr ⟨trivial, List.forall_mem_cons.mpr ⟨trivial, List.forall_mem_cons.mpr ⟨trivial, List.forall_mem_cons.mpr ⟨trivial, List.forall_mem_cons.mpr ⟨trivial, fun _ h => absurd h List.not_mem_nil⟩⟩⟩⟩⟩⟩⟩⟩⟩⟩⟩⟩⟩⟩⟩⟩
def k_Row_with : xCd := [
  (0, .iload_n 0, 1, .inl (0, 0)),
  (1, .bipush 7, 2, .inr (.inr (.inl (nI 7)))),
  (3, .iconst 3, 1, .inr (.inr (.inl (nI 3)))),
  (4, .iload_n 1, 1, .inl (0, 0)),
  (5, .imul, 1, .inl (0, 0)),
  (6, .ishl, 1, .inl (0, 0)),
  (7, .iconst (-1), 1, .inr (.inr (.inl (-1)))),
  (8, .ixor, 1, .inl (0, 0)),
  (9, .iand, 1, .inl (0, 0)),
  (10, .iload_n 2, 1, .inl (0, 0)),
  (11, .iconst 3, 1, .inr (.inr (.inl (nI 3)))),
  (12, .iload_n 1, 1, .inl (0, 0)),
  (13, .imul, 1, .inl (0, 0)),
  (14, .ishl, 1, .inl (0, 0)),
  (15, .ior, 1, .inl (0, 0)),
  (16, .ireturn, 1, .inl (0, 0))]
set_option maxRecDepth 100000 in
set_option maxHeartbeats 4000000 in
theorem ok_Row_with : xOK g_Row_with k_Row_with := ⟨by decide +kernel, by decide +kernel, List.forall_mem_cons.mpr ⟨trivial, List.forall_mem_cons.mpr ⟨trivial, List.forall_mem_cons.mpr ⟨trivial, List.forall_mem_cons.mpr ⟨trivial, List.forall_mem_cons.mpr ⟨trivial, List.forall_mem_cons.mpr ⟨trivial, List.forall_mem_cons.mpr ⟨trivial, List.forall_mem_cons.mpr ⟨trivial, List.forall_mem_cons.mpr ⟨trivial, List.forall_mem_cons.mpr ⟨trivial, List.forall_mem_cons.mpr ⟨trivial, List.forall_mem_cons.mpr ⟨trivial, List.forall_mem_cons.mpr ⟨trivial, List.forall_mem_cons.mpr ⟨trivial, List.forall_mem_cons.mpr ⟨trivial, List.forall_mem_cons.mpr ⟨trivial, fun _ h => absurd h List.not_mem_nil⟩⟩⟩⟩⟩⟩⟩⟩⟩⟩⟩⟩⟩⟩⟩⟩⟩
def k_Row_ascending : xCd := [
  (0, .iconst 0, 1, .inr (.inr (.inl (nI 0)))),
  (1, .istore_n 1, 1, .inl (0, 0)),
  (2, .iconst 0, 1, .inr (.inr (.inl (nI 0)))),
  (3, .istore_n 2, 1, .inl (0, 0)),
  (4, .iload_n 2, 1, .inl (0, 0)),
  (5, .iload_n 0, 1, .inl (0, 0)),
  (6, .if_icmp .ge 16, 3, .inl (22, 0)),
  (9, .iload_n 1, 1, .inl (0, 0)),
  (10, .iload_n 2, 1, .inl (0, 0)),
  (11, .iload_n 2, 1, .inl (0, 0)),
  (12, .invokestatic 7, 3, .inr (.inl g_Row_with)),
  (15, .istore_n 1, 1, .inl (0, 0)),
  (16, .iinc 2 1, 3, .inr (.inr (.inl (nI 1)))),
  (19, .goto (-15), 3, .inl (4, 0)),
  (22, .iload_n 1, 1, .inl (0, 0)),
  (23, .ireturn, 1, .inl (0, 0))]
set_option maxRecDepth 100000 in
set_option maxHeartbeats 4000000 in
theorem ok_Row_ascending : xOK g_Row_ascending k_Row_ascending := ⟨by decide +kernel, by decide +kernel, List.forall_mem_cons.mpr ⟨trivial, List.forall_mem_cons.mpr ⟨trivial, List.forall_mem_cons.mpr ⟨trivial, List.forall_mem_cons.mpr ⟨trivial, List.forall_mem_cons.mpr ⟨trivial, List.forall_mem_cons.mpr ⟨trivial, List.forall_mem_cons.mpr ⟨trivial, List.forall_mem_cons.mpr ⟨trivial, List.forall_mem_cons.mpr ⟨trivial, List.forall_mem_cons.mpr ⟨trivial, List.forall_mem_cons.mpr ⟨⟨ml_Row_7, xms_Row_with⟩, List.forall_mem_cons.mpr ⟨trivial, List.forall_mem_cons.mpr ⟨trivial, List.forall_mem_cons.mpr ⟨trivial, List.forall_mem_cons.mpr ⟨trivial, List.forall_mem_cons.mpr ⟨trivial, fun _ h => absurd h List.not_mem_nil⟩⟩⟩⟩⟩⟩⟩⟩⟩⟩⟩⟩⟩⟩⟩⟩⟩
def k_Row_entry : xCd := [
  (0, .iload_n 0, 1, .inl (0, 0)),
  (1, .iconst 3, 1, .inr (.inr (.inl (nI 3)))),
  (2, .iload_n 1, 1, .inl (0, 0)),
  (3, .imul, 1, .inl (0, 0)),
  (4, .ishr, 1, .inl (0, 0)),
  (5, .bipush 7, 2, .inr (.inr (.inl (nI 7)))),
  (7, .iand, 1, .inl (0, 0)),
  (8, .ireturn, 1, .inl (0, 0))]
set_option maxRecDepth 100000 in
set_option maxHeartbeats 4000000 in
theorem ok_Row_entry : xOK g_Row_entry k_Row_entry := ⟨by decide +kernel, by decide +kernel, List.forall_mem_cons.mpr ⟨trivial, List.forall_mem_cons.mpr ⟨trivial, List.forall_mem_cons.mpr ⟨trivial, List.forall_mem_cons.mpr ⟨trivial, List.forall_mem_cons.mpr ⟨trivial, List.forall_mem_cons.mpr ⟨trivial, List.forall_mem_cons.mpr ⟨trivial, List.forall_mem_cons.mpr ⟨trivial, fun _ h => absurd h List.not_mem_nil⟩⟩⟩⟩⟩⟩⟩⟩⟩
def k_Row_turned : xCd := [
  (0, .iconst 0, 1, .inr (.inr (.inl (nI 0)))),
  (1, .istore_n 3, 1, .inl (0, 0)),
  (2, .iconst 0, 1, .inr (.inr (.inl (nI 0)))),
  (3, .istore 4, 2, .inl (0, 0)),
  (5, .iload 4, 2, .inl (0, 0)),
  (7, .iload_n 2, 1, .inl (0, 0)),
  (8, .if_icmp .ge 26, 3, .inl (34, 0)),
  (11, .iload_n 3, 1, .inl (0, 0)),
  (12, .iload 4, 2, .inl (0, 0)),
  (14, .iload_n 0, 1, .inl (0, 0)),
  (15, .iload_n 1, 1, .inl (0, 0)),
  (16, .iload 4, 2, .inl (0, 0)),
  (18, .invokestatic 13, 3, .inr (.inl g_Row_entry)),
  (21, .invokestatic 13, 3, .inr (.inl g_Row_entry)),
  (24, .invokestatic 7, 3, .inr (.inl g_Row_with)),
  (27, .istore_n 3, 1, .inl (0, 0)),
  (28, .iinc 4 1, 3, .inr (.inr (.inl (nI 1)))),
  (31, .goto (-26), 3, .inl (5, 0)),
  (34, .iload_n 3, 1, .inl (0, 0)),
  (35, .ireturn, 1, .inl (0, 0))]
set_option maxRecDepth 100000 in
set_option maxHeartbeats 4000000 in
theorem ok_Row_turned : xOK g_Row_turned k_Row_turned := ⟨by decide +kernel, by decide +kernel, List.forall_mem_cons.mpr ⟨trivial, List.forall_mem_cons.mpr ⟨trivial, List.forall_mem_cons.mpr ⟨trivial, List.forall_mem_cons.mpr ⟨trivial, List.forall_mem_cons.mpr ⟨trivial, List.forall_mem_cons.mpr ⟨trivial, List.forall_mem_cons.mpr ⟨trivial, List.forall_mem_cons.mpr ⟨trivial, List.forall_mem_cons.mpr ⟨trivial, List.forall_mem_cons.mpr ⟨trivial, List.forall_mem_cons.mpr ⟨trivial, List.forall_mem_cons.mpr ⟨trivial, List.forall_mem_cons.mpr ⟨⟨ml_Row_13, xms_Row_entry⟩, List.forall_mem_cons.mpr ⟨⟨ml_Row_13, xms_Row_entry⟩, List.forall_mem_cons.mpr ⟨⟨ml_Row_7, xms_Row_with⟩, List.forall_mem_cons.mpr ⟨trivial, List.forall_mem_cons.mpr ⟨trivial, List.forall_mem_cons.mpr ⟨trivial, List.forall_mem_cons.mpr ⟨trivial, List.forall_mem_cons.mpr ⟨trivial, fun _ h => absurd h List.not_mem_nil⟩⟩⟩⟩⟩⟩⟩⟩⟩⟩⟩⟩⟩⟩⟩⟩⟩⟩⟩⟩⟩
def k_JI_bitCount : xCd := [
  (0, .iload_n 0, 1, .inl (0, 0)),
  (1, .iload_n 0, 1, .inl (0, 0)),
  (2, .iconst 1, 1, .inr (.inr (.inl (nI 1)))),
  (3, .iushr, 1, .inl (0, 0)),
  (4, .ldc_w 265, 3, .inr (.inr (.inl (nI 1431655765)))),
  (7, .iand, 1, .inl (0, 0)),
  (8, .isub, 1, .inl (0, 0)),
  (9, .istore_n 0, 1, .inl (0, 0)),
  (10, .iload_n 0, 1, .inl (0, 0)),
  (11, .ldc_w 266, 3, .inr (.inr (.inl (nI 858993459)))),
  (14, .iand, 1, .inl (0, 0)),
  (15, .iload_n 0, 1, .inl (0, 0)),
  (16, .iconst 2, 1, .inr (.inr (.inl (nI 2)))),
  (17, .iushr, 1, .inl (0, 0)),
  (18, .ldc_w 266, 3, .inr (.inr (.inl (nI 858993459)))),
  (21, .iand, 1, .inl (0, 0)),
  (22, .iadd, 1, .inl (0, 0)),
  (23, .istore_n 0, 1, .inl (0, 0)),
  (24, .iload_n 0, 1, .inl (0, 0)),
  (25, .iload_n 0, 1, .inl (0, 0)),
  (26, .iconst 4, 1, .inr (.inr (.inl (nI 4)))),
  (27, .iushr, 1, .inl (0, 0)),
  (28, .iadd, 1, .inl (0, 0)),
  (29, .ldc_w 267, 3, .inr (.inr (.inl (nI 252645135)))),
  (32, .iand, 1, .inl (0, 0)),
  (33, .istore_n 0, 1, .inl (0, 0)),
  (34, .iload_n 0, 1, .inl (0, 0)),
  (35, .iload_n 0, 1, .inl (0, 0)),
  (36, .bipush 8, 2, .inr (.inr (.inl (nI 8)))),
  (38, .iushr, 1, .inl (0, 0)),
  (39, .iadd, 1, .inl (0, 0)),
  (40, .istore_n 0, 1, .inl (0, 0)),
  (41, .iload_n 0, 1, .inl (0, 0)),
  (42, .iload_n 0, 1, .inl (0, 0)),
  (43, .bipush 16, 2, .inr (.inr (.inl (nI 16)))),
  (45, .iushr, 1, .inl (0, 0)),
  (46, .iadd, 1, .inl (0, 0)),
  (47, .istore_n 0, 1, .inl (0, 0)),
  (48, .iload_n 0, 1, .inl (0, 0)),
  (49, .bipush 63, 2, .inr (.inr (.inl (nI 63)))),
  (51, .iand, 1, .inl (0, 0)),
  (52, .ireturn, 1, .inl (0, 0))]
set_option maxRecDepth 100000 in
set_option maxHeartbeats 4000000 in
theorem ok_JI_bitCount : xOK g_JI_bitCount k_JI_bitCount := ⟨by decide +kernel, by decide +kernel, List.forall_mem_cons.mpr ⟨trivial, List.forall_mem_cons.mpr ⟨trivial, List.forall_mem_cons.mpr ⟨trivial, List.forall_mem_cons.mpr ⟨trivial, List.forall_mem_cons.mpr ⟨lw_gm 295 rfl rfl, List.forall_mem_cons.mpr ⟨trivial, List.forall_mem_cons.mpr ⟨trivial, List.forall_mem_cons.mpr ⟨trivial, List.forall_mem_cons.mpr ⟨trivial, List.forall_mem_cons.mpr ⟨lw_gm 296 rfl rfl, List.forall_mem_cons.mpr ⟨trivial, List.forall_mem_cons.mpr ⟨trivial, List.forall_mem_cons.mpr ⟨trivial, List.forall_mem_cons.mpr ⟨trivial, List.forall_mem_cons.mpr ⟨lw_gm 296 rfl rfl, List.forall_mem_cons.mpr ⟨trivial, List.forall_mem_cons.mpr ⟨trivial, List.forall_mem_cons.mpr ⟨trivial, List.forall_mem_cons.mpr ⟨trivial, List.forall_mem_cons.mpr ⟨trivial, List.forall_mem_cons.mpr ⟨trivial, List.forall_mem_cons.mpr ⟨trivial, List.forall_mem_cons.mpr ⟨trivial, List.forall_mem_cons.mpr ⟨lw_gm 297 rfl rfl, List.forall_mem_cons.mpr ⟨trivial, List.forall_mem_cons.mpr ⟨trivial, List.forall_mem_cons.mpr ⟨trivial, List.forall_mem_cons.mpr ⟨trivial, List.forall_mem_cons.mpr ⟨trivial, List.forall_mem_cons.mpr ⟨trivial, List.forall_mem_cons.mpr ⟨trivial, List.forall_mem_cons.mpr ⟨trivial, List.forall_mem_cons.mpr ⟨trivial, List.forall_mem_cons.mpr ⟨trivial, List.forall_mem_cons.mpr ⟨trivial, List.forall_mem_cons.mpr ⟨trivial, List.forall_mem_cons.mpr ⟨trivial, List.forall_mem_cons.mpr ⟨trivial, List.forall_mem_cons.mpr ⟨trivial, List.forall_mem_cons.mpr ⟨trivial, List.forall_mem_cons.mpr ⟨trivial, List.forall_mem_cons.mpr ⟨trivial, fun _ h => absurd h List.not_mem_nil⟩⟩⟩⟩⟩⟩⟩⟩⟩⟩⟩⟩⟩⟩⟩⟩⟩⟩⟩⟩⟩⟩⟩⟩⟩⟩⟩⟩⟩⟩⟩⟩⟩⟩⟩⟩⟩⟩⟩⟩⟩⟩⟩
def k_Perm_count : xCd := [
  (0, .iconst 1, 1, .inr (.inr (.inl (nI 1)))),
  (1, .istore_n 1, 1, .inl (0, 0)),
  (2, .iconst 2, 1, .inr (.inr (.inl (nI 2)))),
  (3, .istore_n 2, 1, .inl (0, 0)),
  (4, .iload_n 2, 1, .inl (0, 0)),
  (5, .iload_n 0, 1, .inl (0, 0)),
  (6, .if_icmp .gt 13, 3, .inl (19, 0)),
  (9, .iload_n 1, 1, .inl (0, 0)),
  (10, .iload_n 2, 1, .inl (0, 0)),
  (11, .imul, 1, .inl (0, 0)),
  (12, .istore_n 1, 1, .inl (0, 0)),
  (13, .iinc 2 1, 3, .inr (.inr (.inl (nI 1)))),
  (16, .goto (-12), 3, .inl (4, 0)),
  (19, .iload_n 1, 1, .inl (0, 0)),
  (20, .ireturn, 1, .inl (0, 0))]
set_option maxRecDepth 100000 in
set_option maxHeartbeats 4000000 in
theorem ok_Perm_count : xOK g_Perm_count k_Perm_count := ⟨by decide +kernel, by decide +kernel, List.forall_mem_cons.mpr ⟨trivial, List.forall_mem_cons.mpr ⟨trivial, List.forall_mem_cons.mpr ⟨trivial, List.forall_mem_cons.mpr ⟨trivial, List.forall_mem_cons.mpr ⟨trivial, List.forall_mem_cons.mpr ⟨trivial, List.forall_mem_cons.mpr ⟨trivial, List.forall_mem_cons.mpr ⟨trivial, List.forall_mem_cons.mpr ⟨trivial, List.forall_mem_cons.mpr ⟨trivial, List.forall_mem_cons.mpr ⟨trivial, List.forall_mem_cons.mpr ⟨trivial, List.forall_mem_cons.mpr ⟨trivial, List.forall_mem_cons.mpr ⟨trivial, List.forall_mem_cons.mpr ⟨trivial, fun _ h => absurd h List.not_mem_nil⟩⟩⟩⟩⟩⟩⟩⟩⟩⟩⟩⟩⟩⟩⟩⟩
def k_Perm_numbered : xCd := [
  (0, .iconst 0, 1, .inr (.inr (.inl (nI 0)))),
  (1, .istore_n 2, 1, .inl (0, 0)),
  (2, .iload_n 0, 1, .inl (0, 0)),
  (3, .istore_n 3, 1, .inl (0, 0)),
  (4, .iload_n 1, 1, .inl (0, 0)),
  (5, .iconst 1, 1, .inr (.inr (.inl (nI 1)))),
  (6, .isub, 1, .inl (0, 0)),
  (7, .istore 4, 2, .inl (0, 0)),
  (9, .iload 4, 2, .inl (0, 0)),
  (11, .ifCond .lt 79, 3, .inl (90, 0)),
  (14, .iload_n 1, 1, .inl (0, 0)),
  (15, .iload 4, 2, .inl (0, 0)),
  (17, .isub, 1, .inl (0, 0)),
  (18, .istore 5, 2, .inl (0, 0)),
  (20, .iload_n 3, 1, .inl (0, 0)),
  (21, .iload 5, 2, .inl (0, 0)),
  (23, .irem, 1, .inl (0, 0)),
  (24, .istore 6, 2, .inl (0, 0)),
  (26, .iload_n 3, 1, .inl (0, 0)),
  (27, .iload 5, 2, .inl (0, 0)),
  (29, .idiv, 1, .inl (0, 0)),
  (30, .istore_n 3, 1, .inl (0, 0)),
  (31, .iload 4, 2, .inl (0, 0)),
  (33, .iconst 1, 1, .inr (.inr (.inl (nI 1)))),
  (34, .iadd, 1, .inl (0, 0)),
  (35, .istore 7, 2, .inl (0, 0)),
  (37, .iload 7, 2, .inl (0, 0)),
  (39, .iload_n 1, 1, .inl (0, 0)),
  (40, .if_icmp .ge 35, 3, .inl (75, 0)),
  (43, .iload_n 2, 1, .inl (0, 0)),
  (44, .iload 7, 2, .inl (0, 0)),
  (46, .invokestatic 9, 3, .inr (.inl g_Row_entry)),
  (49, .istore 8, 2, .inl (0, 0)),
  (51, .iload 8, 2, .inl (0, 0)),
  (53, .iload 6, 2, .inl (0, 0)),
  (55, .if_icmp .lt 14, 3, .inl (69, 0)),
  (58, .iload_n 2, 1, .inl (0, 0)),
  (59, .iload 7, 2, .inl (0, 0)),
  (61, .iload 8, 2, .inl (0, 0)),
  (63, .iconst 1, 1, .inr (.inr (.inl (nI 1)))),
  (64, .iadd, 1, .inl (0, 0)),
  (65, .invokestatic 21, 3, .inr (.inl g_Row_with)),
  (68, .istore_n 2, 1, .inl (0, 0)),
  (69, .iinc 7 1, 3, .inr (.inr (.inl (nI 1)))),
  (72, .goto (-35), 3, .inl (37, 0)),
  (75, .iload_n 2, 1, .inl (0, 0)),
  (76, .iload 4, 2, .inl (0, 0)),
  (78, .iload 6, 2, .inl (0, 0)),
  (80, .invokestatic 21, 3, .inr (.inl g_Row_with)),
  (83, .istore_n 2, 1, .inl (0, 0)),
  (84, .iinc 4 (-1), 3, .inr (.inr (.inl (-1)))),
  (87, .goto (-78), 3, .inl (9, 0)),
  (90, .iload_n 2, 1, .inl (0, 0)),
  (91, .ireturn, 1, .inl (0, 0))]
set_option maxRecDepth 100000 in
set_option maxHeartbeats 4000000 in
theorem ok_Perm_numbered : xOK g_Perm_numbered k_Perm_numbered := ⟨by decide +kernel, by decide +kernel, List.forall_mem_cons.mpr ⟨trivial, List.forall_mem_cons.mpr ⟨trivial, List.forall_mem_cons.mpr ⟨trivial, List.forall_mem_cons.mpr ⟨trivial, List.forall_mem_cons.mpr ⟨trivial, List.forall_mem_cons.mpr ⟨trivial, List.forall_mem_cons.mpr ⟨trivial, List.forall_mem_cons.mpr ⟨trivial, List.forall_mem_cons.mpr ⟨trivial, List.forall_mem_cons.mpr ⟨trivial, List.forall_mem_cons.mpr ⟨trivial, List.forall_mem_cons.mpr ⟨trivial, List.forall_mem_cons.mpr ⟨trivial, List.forall_mem_cons.mpr ⟨trivial, List.forall_mem_cons.mpr ⟨trivial, List.forall_mem_cons.mpr ⟨trivial, List.forall_mem_cons.mpr ⟨trivial, List.forall_mem_cons.mpr ⟨trivial, List.forall_mem_cons.mpr ⟨trivial, List.forall_mem_cons.mpr ⟨trivial, List.forall_mem_cons.mpr ⟨trivial, List.forall_mem_cons.mpr ⟨trivial, List.forall_mem_cons.mpr ⟨trivial, List.forall_mem_cons.mpr ⟨trivial, List.forall_mem_cons.mpr ⟨trivial, List.forall_mem_cons.mpr ⟨trivial, List.forall_mem_cons.mpr ⟨trivial, List.forall_mem_cons.mpr ⟨trivial, List.forall_mem_cons.mpr ⟨trivial, List.forall_mem_cons.mpr ⟨trivial, List.forall_mem_cons.mpr ⟨trivial, List.forall_mem_cons.mpr ⟨⟨ml_Perm_9, xms_Row_entry⟩, List.forall_mem_cons.mpr ⟨trivial, List.forall_mem_cons.mpr ⟨trivial, List.forall_mem_cons.mpr ⟨trivial, List.forall_mem_cons.mpr ⟨trivial, List.forall_mem_cons.mpr ⟨trivial, List.forall_mem_cons.mpr ⟨trivial, List.forall_mem_cons.mpr ⟨trivial, List.forall_mem_cons.mpr ⟨trivial, List.forall_mem_cons.mpr ⟨trivial, List.forall_mem_cons.mpr ⟨⟨ml_Perm_21, xms_Row_with⟩, List.forall_mem_cons.mpr ⟨trivial, List.forall_mem_cons.mpr ⟨trivial, List.forall_mem_cons.mpr ⟨trivial, List.forall_mem_cons.mpr ⟨trivial, List.forall_mem_cons.mpr ⟨trivial, List.forall_mem_cons.mpr ⟨trivial, List.forall_mem_cons.mpr ⟨⟨ml_Perm_21, xms_Row_with⟩, List.forall_mem_cons.mpr ⟨trivial, List.forall_mem_cons.mpr ⟨trivial, List.forall_mem_cons.mpr ⟨trivial, List.forall_mem_cons.mpr ⟨trivial, List.forall_mem_cons.mpr ⟨trivial, fun _ h => absurd h List.not_mem_nil⟩⟩⟩⟩⟩⟩⟩⟩⟩⟩⟩⟩⟩⟩⟩⟩⟩⟩⟩⟩⟩⟩⟩⟩⟩⟩⟩⟩⟩⟩⟩⟩⟩⟩⟩⟩⟩⟩⟩⟩⟩⟩⟩⟩⟩⟩⟩⟩⟩⟩⟩⟩⟩⟩⟩
def k_Perm_number : xCd := [
  (0, .iconst 1, 1, .inr (.inr (.inl (nI 1)))),
  (1, .iload_n 1, 1, .inl (0, 0)),
  (2, .ishl, 1, .inl (0, 0)),
  (3, .iconst 1, 1, .inr (.inr (.inl (nI 1)))),
  (4, .isub, 1, .inl (0, 0)),
  (5, .istore_n 2, 1, .inl (0, 0)),
  (6, .iconst 0, 1, .inr (.inr (.inl (nI 0)))),
  (7, .istore_n 3, 1, .inl (0, 0)),
  (8, .iconst 0, 1, .inr (.inr (.inl (nI 0)))),
  (9, .istore 4, 2, .inl (0, 0)),
  (11, .iload 4, 2, .inl (0, 0)),
  (13, .iload_n 1, 1, .inl (0, 0)),
  (14, .if_icmp .ge 43, 3, .inl (57, 0)),
  (17, .iconst 1, 1, .inr (.inr (.inl (nI 1)))),
  (18, .iload_n 0, 1, .inl (0, 0)),
  (19, .iload 4, 2, .inl (0, 0)),
  (21, .invokestatic 9, 3, .inr (.inl g_Row_entry)),
  (24, .ishl, 1, .inl (0, 0)),
  (25, .istore 5, 2, .inl (0, 0)),
  (27, .iload_n 3, 1, .inl (0, 0)),
  (28, .iload_n 1, 1, .inl (0, 0)),
  (29, .iload 4, 2, .inl (0, 0)),
  (31, .isub, 1, .inl (0, 0)),
  (32, .imul, 1, .inl (0, 0)),
  (33, .iload_n 2, 1, .inl (0, 0)),
  (34, .iload 5, 2, .inl (0, 0)),
  (36, .iconst 1, 1, .inr (.inr (.inl (nI 1)))),
  (37, .isub, 1, .inl (0, 0)),
  (38, .iand, 1, .inl (0, 0)),
  (39, .invokestatic 15, 3, .inr (.inl g_JI_bitCount)),
  (42, .iadd, 1, .inl (0, 0)),
  (43, .istore_n 3, 1, .inl (0, 0)),
  (44, .iload_n 2, 1, .inl (0, 0)),
  (45, .iload 5, 2, .inl (0, 0)),
  (47, .iconst (-1), 1, .inr (.inr (.inl (-1)))),
  (48, .ixor, 1, .inl (0, 0)),
  (49, .iand, 1, .inl (0, 0)),
  (50, .istore_n 2, 1, .inl (0, 0)),
  (51, .iinc 4 1, 3, .inr (.inr (.inl (nI 1)))),
  (54, .goto (-43), 3, .inl (11, 0)),
  (57, .iload_n 3, 1, .inl (0, 0)),
  (58, .ireturn, 1, .inl (0, 0))]
set_option maxRecDepth 100000 in
set_option maxHeartbeats 4000000 in
theorem ok_Perm_number : xOK g_Perm_number k_Perm_number := ⟨by decide +kernel, by decide +kernel, List.forall_mem_cons.mpr ⟨trivial, List.forall_mem_cons.mpr ⟨trivial, List.forall_mem_cons.mpr ⟨trivial, List.forall_mem_cons.mpr ⟨trivial, List.forall_mem_cons.mpr ⟨trivial, List.forall_mem_cons.mpr ⟨trivial, List.forall_mem_cons.mpr ⟨trivial, List.forall_mem_cons.mpr ⟨trivial, List.forall_mem_cons.mpr ⟨trivial, List.forall_mem_cons.mpr ⟨trivial, List.forall_mem_cons.mpr ⟨trivial, List.forall_mem_cons.mpr ⟨trivial, List.forall_mem_cons.mpr ⟨trivial, List.forall_mem_cons.mpr ⟨trivial, List.forall_mem_cons.mpr ⟨trivial, List.forall_mem_cons.mpr ⟨trivial, List.forall_mem_cons.mpr ⟨⟨ml_Perm_9, xms_Row_entry⟩, List.forall_mem_cons.mpr ⟨trivial, List.forall_mem_cons.mpr ⟨trivial, List.forall_mem_cons.mpr ⟨trivial, List.forall_mem_cons.mpr ⟨trivial, List.forall_mem_cons.mpr ⟨trivial, List.forall_mem_cons.mpr ⟨trivial, List.forall_mem_cons.mpr ⟨trivial, List.forall_mem_cons.mpr ⟨trivial, List.forall_mem_cons.mpr ⟨trivial, List.forall_mem_cons.mpr ⟨trivial, List.forall_mem_cons.mpr ⟨trivial, List.forall_mem_cons.mpr ⟨trivial, List.forall_mem_cons.mpr ⟨⟨ml_Perm_15, xms_JI_bitCount⟩, List.forall_mem_cons.mpr ⟨trivial, List.forall_mem_cons.mpr ⟨trivial, List.forall_mem_cons.mpr ⟨trivial, List.forall_mem_cons.mpr ⟨trivial, List.forall_mem_cons.mpr ⟨trivial, List.forall_mem_cons.mpr ⟨trivial, List.forall_mem_cons.mpr ⟨trivial, List.forall_mem_cons.mpr ⟨trivial, List.forall_mem_cons.mpr ⟨trivial, List.forall_mem_cons.mpr ⟨trivial, List.forall_mem_cons.mpr ⟨trivial, List.forall_mem_cons.mpr ⟨trivial, fun _ h => absurd h List.not_mem_nil⟩⟩⟩⟩⟩⟩⟩⟩⟩⟩⟩⟩⟩⟩⟩⟩⟩⟩⟩⟩⟩⟩⟩⟩⟩⟩⟩⟩⟩⟩⟩⟩⟩⟩⟩⟩⟩⟩⟩⟩⟩⟩⟩
def k_Perm_lineOfWeave : xCd := [
  (0, .iload_n 0, 1, .inl (0, 0)),
  (1, .iconst 1, 1, .inr (.inr (.inl (nI 1)))),
  (2, .iadd, 1, .inl (0, 0)),
  (3, .iconst 2, 1, .inr (.inr (.inl (nI 2)))),
  (4, .idiv, 1, .inl (0, 0)),
  (5, .istore_n 2, 1, .inl (0, 0)),
  (6, .iload_n 1, 1, .inl (0, 0)),
  (7, .iload_n 2, 1, .inl (0, 0)),
  (8, .if_icmp .ge 9, 3, .inl (17, 0)),
  (11, .iconst 2, 1, .inr (.inr (.inl (nI 2)))),
  (12, .iload_n 1, 1, .inl (0, 0)),
  (13, .imul, 1, .inl (0, 0)),
  (14, .goto 10, 3, .inl (24, 0)),
  (17, .iconst 2, 1, .inr (.inr (.inl (nI 2)))),
  (18, .iload_n 1, 1, .inl (0, 0)),
  (19, .iload_n 2, 1, .inl (0, 0)),
  (20, .isub, 1, .inl (0, 0)),
  (21, .imul, 1, .inl (0, 0)),
  (22, .iconst 1, 1, .inr (.inr (.inl (nI 1)))),
  (23, .iadd, 1, .inl (0, 0)),
  (24, .ireturn, 1, .inl (0, 0))]
set_option maxRecDepth 100000 in
set_option maxHeartbeats 4000000 in
theorem ok_Perm_lineOfWeave : xOK g_Perm_lineOfWeave k_Perm_lineOfWeave := ⟨by decide +kernel, by decide +kernel, List.forall_mem_cons.mpr ⟨trivial, List.forall_mem_cons.mpr ⟨trivial, List.forall_mem_cons.mpr ⟨trivial, List.forall_mem_cons.mpr ⟨trivial, List.forall_mem_cons.mpr ⟨trivial, List.forall_mem_cons.mpr ⟨trivial, List.forall_mem_cons.mpr ⟨trivial, List.forall_mem_cons.mpr ⟨trivial, List.forall_mem_cons.mpr ⟨trivial, List.forall_mem_cons.mpr ⟨trivial, List.forall_mem_cons.mpr ⟨trivial, List.forall_mem_cons.mpr ⟨trivial, List.forall_mem_cons.mpr ⟨trivial, List.forall_mem_cons.mpr ⟨trivial, List.forall_mem_cons.mpr ⟨trivial, List.forall_mem_cons.mpr ⟨trivial, List.forall_mem_cons.mpr ⟨trivial, List.forall_mem_cons.mpr ⟨trivial, List.forall_mem_cons.mpr ⟨trivial, List.forall_mem_cons.mpr ⟨trivial, List.forall_mem_cons.mpr ⟨trivial, fun _ h => absurd h List.not_mem_nil⟩⟩⟩⟩⟩⟩⟩⟩⟩⟩⟩⟩⟩⟩⟩⟩⟩⟩⟩⟩⟩⟩
def k_Perm_lineOfKind : xCd := [
  (0, .iload_n 0, 1, .inl (0, 0)),
  (1, .tableswitch 105 1 5 #[35, 55, 61, 80, 99], 35, .inr (.inr (.inr (.inr (106, [(nI 1, 36), (nI 2, 56), (nI 3, 62), (nI 4, 81), (nI 5, 100)]))))),
  (36, .iload_n 3, 1, .inl (0, 0)),
  (37, .iconst 2, 1, .inr (.inr (.inl (nI 2)))),
  (38, .irem, 1, .inl (0, 0)),
  (39, .ifCond .ne 13, 3, .inl (52, 0)),
  (42, .iload_n 2, 1, .inl (0, 0)),
  (43, .iconst 1, 1, .inr (.inr (.inl (nI 1)))),
  (44, .isub, 1, .inl (0, 0)),
  (45, .iload_n 3, 1, .inl (0, 0)),
  (46, .iconst 2, 1, .inr (.inr (.inl (nI 2)))),
  (47, .idiv, 1, .inl (0, 0)),
  (48, .isub, 1, .inl (0, 0)),
  (49, .goto 6, 3, .inl (55, 0)),
  (52, .iload_n 3, 1, .inl (0, 0)),
  (53, .iconst 2, 1, .inr (.inr (.inl (nI 2)))),
  (54, .idiv, 1, .inl (0, 0)),
  (55, .ireturn, 1, .inl (0, 0)),
  (56, .iload_n 2, 1, .inl (0, 0)),
  (57, .iconst 1, 1, .inr (.inr (.inl (nI 1)))),
  (58, .isub, 1, .inl (0, 0)),
  (59, .iload_n 3, 1, .inl (0, 0)),
  (60, .isub, 1, .inl (0, 0)),
  (61, .ireturn, 1, .inl (0, 0)),
  (62, .iload_n 3, 1, .inl (0, 0)),
  (63, .iload_n 1, 1, .inl (0, 0)),
  (64, .iadd, 1, .inl (0, 0)),
  (65, .iload_n 2, 1, .inl (0, 0)),
  (66, .if_icmp .ge 9, 3, .inl (75, 0)),
  (69, .iload_n 3, 1, .inl (0, 0)),
  (70, .iload_n 1, 1, .inl (0, 0)),
  (71, .iadd, 1, .inl (0, 0)),
  (72, .goto 8, 3, .inl (80, 0)),
  (75, .iload_n 3, 1, .inl (0, 0)),
  (76, .iload_n 1, 1, .inl (0, 0)),
  (77, .iadd, 1, .inl (0, 0)),
  (78, .iload_n 2, 1, .inl (0, 0)),
  (79, .isub, 1, .inl (0, 0)),
  (80, .ireturn, 1, .inl (0, 0)),
  (81, .iload_n 3, 1, .inl (0, 0)),
  (82, .ifCond .ne 7, 3, .inl (89, 0)),
  (85, .iload_n 1, 1, .inl (0, 0)),
  (86, .goto 13, 3, .inl (99, 0)),
  (89, .iload_n 3, 1, .inl (0, 0)),
  (90, .iload_n 1, 1, .inl (0, 0)),
  (91, .if_icmp .ne 7, 3, .inl (98, 0)),
  (94, .iconst 0, 1, .inr (.inr (.inl (nI 0)))),
  (95, .goto 4, 3, .inl (99, 0)),
  (98, .iload_n 3, 1, .inl (0, 0)),
  (99, .ireturn, 1, .inl (0, 0)),
  (100, .iload_n 2, 1, .inl (0, 0)),
  (101, .iload_n 3, 1, .inl (0, 0)),
  (102, .invokestatic 31, 3, .inr (.inl g_Perm_lineOfWeave)),
  (105, .ireturn, 1, .inl (0, 0)),
  (106, .iload_n 3, 1, .inl (0, 0)),
  (107, .ireturn, 1, .inl (0, 0))]
set_option maxRecDepth 100000 in
set_option maxHeartbeats 4000000 in
theorem ok_Perm_lineOfKind : xOK g_Perm_lineOfKind k_Perm_lineOfKind := ⟨by decide +kernel, by decide +kernel, List.forall_mem_cons.mpr ⟨trivial, List.forall_mem_cons.mpr ⟨trivial, List.forall_mem_cons.mpr ⟨trivial, List.forall_mem_cons.mpr ⟨trivial, List.forall_mem_cons.mpr ⟨trivial, List.forall_mem_cons.mpr ⟨trivial, List.forall_mem_cons.mpr ⟨trivial, List.forall_mem_cons.mpr ⟨trivial, List.forall_mem_cons.mpr ⟨trivial, List.forall_mem_cons.mpr ⟨trivial, List.forall_mem_cons.mpr ⟨trivial, List.forall_mem_cons.mpr ⟨trivial, List.forall_mem_cons.mpr ⟨trivial, List.forall_mem_cons.mpr ⟨trivial, List.forall_mem_cons.mpr ⟨trivial, List.forall_mem_cons.mpr ⟨trivial, List.forall_mem_cons.mpr ⟨trivial, List.forall_mem_cons.mpr ⟨trivial, List.forall_mem_cons.mpr ⟨trivial, List.forall_mem_cons.mpr ⟨trivial, List.forall_mem_cons.mpr ⟨trivial, List.forall_mem_cons.mpr ⟨trivial, List.forall_mem_cons.mpr ⟨trivial, List.forall_mem_cons.mpr ⟨trivial, List.forall_mem_cons.mpr ⟨trivial, List.forall_mem_cons.mpr ⟨trivial, List.forall_mem_cons.mpr ⟨trivial, List.forall_mem_cons.mpr ⟨trivial, List.forall_mem_cons.mpr ⟨trivial, List.forall_mem_cons.mpr ⟨trivial, List.forall_mem_cons.mpr ⟨trivial, List.forall_mem_cons.mpr ⟨trivial, List.forall_mem_cons.mpr ⟨trivial, List.forall_mem_cons.mpr ⟨trivial, List.forall_mem_cons.mpr ⟨trivial, List.forall_mem_cons.mpr ⟨trivial, List.forall_mem_cons.mpr ⟨trivial, List.forall_mem_cons.mpr ⟨trivial, List.forall_mem_cons.mpr ⟨trivial, List.forall_mem_cons.mpr ⟨trivial, List.forall_mem_cons.mpr ⟨trivial, List.forall_mem_cons.mpr ⟨trivial, List.forall_mem_cons.mpr ⟨trivial, List.forall_mem_cons.mpr ⟨trivial, List.forall_mem_cons.mpr ⟨trivial, List.forall_mem_cons.mpr ⟨trivial, List.forall_mem_cons.mpr ⟨trivial, List.forall_mem_cons.mpr ⟨trivial, List.forall_mem_cons.mpr ⟨trivial, List.forall_mem_cons.mpr ⟨trivial, List.forall_mem_cons.mpr ⟨trivial, List.forall_mem_cons.mpr ⟨trivial, List.forall_mem_cons.mpr ⟨⟨ml_Perm_31, xms_Perm_lineOfWeave⟩, List.forall_mem_cons.mpr ⟨trivial, List.forall_mem_cons.mpr ⟨trivial, List.forall_mem_cons.mpr ⟨trivial, fun _ h => absurd h List.not_mem_nil⟩⟩⟩⟩⟩⟩⟩⟩⟩⟩⟩⟩⟩⟩⟩⟩⟩⟩⟩⟩⟩⟩⟩⟩⟩⟩⟩⟩⟩⟩⟩⟩⟩⟩⟩⟩⟩⟩⟩⟩⟩⟩⟩⟩⟩⟩⟩⟩⟩⟩⟩⟩⟩⟩⟩⟩⟩
def k_Perm_ofKind : xCd := [
  (0, .iconst 0, 1, .inr (.inr (.inl (nI 0)))),
  (1, .istore_n 3, 1, .inl (0, 0)),
  (2, .iconst 0, 1, .inr (.inr (.inl (nI 0)))),
  (3, .istore 4, 2, .inl (0, 0)),
  (5, .iload 4, 2, .inl (0, 0)),
  (7, .iload_n 2, 1, .inl (0, 0)),
  (8, .if_icmp .ge 24, 3, .inl (32, 0)),
  (11, .iload_n 3, 1, .inl (0, 0)),
  (12, .iload 4, 2, .inl (0, 0)),
  (14, .iload_n 0, 1, .inl (0, 0)),
  (15, .iload_n 1, 1, .inl (0, 0)),
  (16, .iload_n 2, 1, .inl (0, 0)),
  (17, .iload 4, 2, .inl (0, 0)),
  (19, .invokestatic 25, 3, .inr (.inl g_Perm_lineOfKind)),
  (22, .invokestatic 21, 3, .inr (.inl g_Row_with)),
  (25, .istore_n 3, 1, .inl (0, 0)),
  (26, .iinc 4 1, 3, .inr (.inr (.inl (nI 1)))),
  (29, .goto (-24), 3, .inl (5, 0)),
  (32, .iload_n 3, 1, .inl (0, 0)),
  (33, .ireturn, 1, .inl (0, 0))]
set_option maxRecDepth 100000 in
set_option maxHeartbeats 4000000 in
theorem ok_Perm_ofKind : xOK g_Perm_ofKind k_Perm_ofKind := ⟨by decide +kernel, by decide +kernel, List.forall_mem_cons.mpr ⟨trivial, List.forall_mem_cons.mpr ⟨trivial, List.forall_mem_cons.mpr ⟨trivial, List.forall_mem_cons.mpr ⟨trivial, List.forall_mem_cons.mpr ⟨trivial, List.forall_mem_cons.mpr ⟨trivial, List.forall_mem_cons.mpr ⟨trivial, List.forall_mem_cons.mpr ⟨trivial, List.forall_mem_cons.mpr ⟨trivial, List.forall_mem_cons.mpr ⟨trivial, List.forall_mem_cons.mpr ⟨trivial, List.forall_mem_cons.mpr ⟨trivial, List.forall_mem_cons.mpr ⟨trivial, List.forall_mem_cons.mpr ⟨⟨ml_Perm_25, xms_Perm_lineOfKind⟩, List.forall_mem_cons.mpr ⟨⟨ml_Perm_21, xms_Row_with⟩, List.forall_mem_cons.mpr ⟨trivial, List.forall_mem_cons.mpr ⟨trivial, List.forall_mem_cons.mpr ⟨trivial, List.forall_mem_cons.mpr ⟨trivial, List.forall_mem_cons.mpr ⟨trivial, fun _ h => absurd h List.not_mem_nil⟩⟩⟩⟩⟩⟩⟩⟩⟩⟩⟩⟩⟩⟩⟩⟩⟩⟩⟩⟩⟩
def k_Perm_inverse : xCd := [
  (0, .iconst 0, 1, .inr (.inr (.inl (nI 0)))),
  (1, .istore_n 2, 1, .inl (0, 0)),
  (2, .iconst 0, 1, .inr (.inr (.inl (nI 0)))),
  (3, .istore_n 3, 1, .inl (0, 0)),
  (4, .iload_n 3, 1, .inl (0, 0)),
  (5, .iload_n 1, 1, .inl (0, 0)),
  (6, .if_icmp .ge 20, 3, .inl (26, 0)),
  (9, .iload_n 2, 1, .inl (0, 0)),
  (10, .iload_n 0, 1, .inl (0, 0)),
  (11, .iload_n 3, 1, .inl (0, 0)),
  (12, .invokestatic 9, 3, .inr (.inl g_Row_entry)),
  (15, .iload_n 3, 1, .inl (0, 0)),
  (16, .invokestatic 21, 3, .inr (.inl g_Row_with)),
  (19, .istore_n 2, 1, .inl (0, 0)),
  (20, .iinc 3 1, 3, .inr (.inr (.inl (nI 1)))),
  (23, .goto (-19), 3, .inl (4, 0)),
  (26, .iload_n 2, 1, .inl (0, 0)),
  (27, .ireturn, 1, .inl (0, 0))]
set_option maxRecDepth 100000 in
set_option maxHeartbeats 4000000 in
theorem ok_Perm_inverse : xOK g_Perm_inverse k_Perm_inverse := ⟨by decide +kernel, by decide +kernel, List.forall_mem_cons.mpr ⟨trivial, List.forall_mem_cons.mpr ⟨trivial, List.forall_mem_cons.mpr ⟨trivial, List.forall_mem_cons.mpr ⟨trivial, List.forall_mem_cons.mpr ⟨trivial, List.forall_mem_cons.mpr ⟨trivial, List.forall_mem_cons.mpr ⟨trivial, List.forall_mem_cons.mpr ⟨trivial, List.forall_mem_cons.mpr ⟨trivial, List.forall_mem_cons.mpr ⟨trivial, List.forall_mem_cons.mpr ⟨⟨ml_Perm_9, xms_Row_entry⟩, List.forall_mem_cons.mpr ⟨trivial, List.forall_mem_cons.mpr ⟨⟨ml_Perm_21, xms_Row_with⟩, List.forall_mem_cons.mpr ⟨trivial, List.forall_mem_cons.mpr ⟨trivial, List.forall_mem_cons.mpr ⟨trivial, List.forall_mem_cons.mpr ⟨trivial, List.forall_mem_cons.mpr ⟨trivial, fun _ h => absurd h List.not_mem_nil⟩⟩⟩⟩⟩⟩⟩⟩⟩⟩⟩⟩⟩⟩⟩⟩⟩⟩⟩
def k_Perm_repeated : xCd := [
  (0, .iload_n 2, 1, .inl (0, 0)),
  (1, .invokestatic 34, 3, .inr (.inl g_Row_ascending)),
  (4, .istore_n 3, 1, .inl (0, 0)),
  (5, .iload_n 0, 1, .inl (0, 0)),
  (6, .istore 4, 2, .inl (0, 0)),
  (8, .iload_n 1, 1, .inl (0, 0)),
  (9, .istore 5, 2, .inl (0, 0)),
  (11, .iload 5, 2, .inl (0, 0)),
  (13, .ifCond .le 38, 3, .inl (51, 0)),
  (16, .iload 5, 2, .inl (0, 0)),
  (18, .iconst 1, 1, .inr (.inr (.inl (nI 1)))),
  (19, .iand, 1, .inl (0, 0)),
  (20, .iconst 1, 1, .inr (.inr (.inl (nI 1)))),
  (21, .if_icmp .ne 11, 3, .inl (32, 0)),
  (24, .iload_n 3, 1, .inl (0, 0)),
  (25, .iload 4, 2, .inl (0, 0)),
  (27, .iload_n 2, 1, .inl (0, 0)),
  (28, .invokestatic 37, 3, .inr (.inl g_Row_turned)),
  (31, .istore_n 3, 1, .inl (0, 0)),
  (32, .iload 4, 2, .inl (0, 0)),
  (34, .iload 4, 2, .inl (0, 0)),
  (36, .iload_n 2, 1, .inl (0, 0)),
  (37, .invokestatic 37, 3, .inr (.inl g_Row_turned)),
  (40, .istore 4, 2, .inl (0, 0)),
  (42, .iload 5, 2, .inl (0, 0)),
  (44, .iconst 1, 1, .inr (.inr (.inl (nI 1)))),
  (45, .ishr, 1, .inl (0, 0)),
  (46, .istore 5, 2, .inl (0, 0)),
  (48, .goto (-37), 3, .inl (11, 0)),
  (51, .iload_n 3, 1, .inl (0, 0)),
  (52, .ireturn, 1, .inl (0, 0))]
set_option maxRecDepth 100000 in
set_option maxHeartbeats 4000000 in
theorem ok_Perm_repeated : xOK g_Perm_repeated k_Perm_repeated := ⟨by decide +kernel, by decide +kernel, List.forall_mem_cons.mpr ⟨trivial, List.forall_mem_cons.mpr ⟨⟨ml_Perm_34, xms_Row_ascending⟩, List.forall_mem_cons.mpr ⟨trivial, List.forall_mem_cons.mpr ⟨trivial, List.forall_mem_cons.mpr ⟨trivial, List.forall_mem_cons.mpr ⟨trivial, List.forall_mem_cons.mpr ⟨trivial, List.forall_mem_cons.mpr ⟨trivial, List.forall_mem_cons.mpr ⟨trivial, List.forall_mem_cons.mpr ⟨trivial, List.forall_mem_cons.mpr ⟨trivial, List.forall_mem_cons.mpr ⟨trivial, List.forall_mem_cons.mpr ⟨trivial, List.forall_mem_cons.mpr ⟨trivial, List.forall_mem_cons.mpr ⟨trivial, List.forall_mem_cons.mpr ⟨trivial, List.forall_mem_cons.mpr ⟨trivial, List.forall_mem_cons.mpr ⟨⟨ml_Perm_37, xms_Row_turned⟩, List.forall_mem_cons.mpr ⟨trivial, List.forall_mem_cons.mpr ⟨trivial, List.forall_mem_cons.mpr ⟨trivial, List.forall_mem_cons.mpr ⟨trivial, List.forall_mem_cons.mpr ⟨⟨ml_Perm_37, xms_Row_turned⟩, List.forall_mem_cons.mpr ⟨trivial, List.forall_mem_cons.mpr ⟨trivial, List.forall_mem_cons.mpr ⟨trivial, List.forall_mem_cons.mpr ⟨trivial, List.forall_mem_cons.mpr ⟨trivial, List.forall_mem_cons.mpr ⟨trivial, List.forall_mem_cons.mpr ⟨trivial, List.forall_mem_cons.mpr ⟨trivial, fun _ h => absurd h List.not_mem_nil⟩⟩⟩⟩⟩⟩⟩⟩⟩⟩⟩⟩⟩⟩⟩⟩⟩⟩⟩⟩⟩⟩⟩⟩⟩⟩⟩⟩⟩⟩⟩⟩
def k_Perm_firstRoot : xCd := [
  (0, .iload_n 2, 1, .inl (0, 0)),
  (1, .invokestatic 40, 3, .inr (.inl g_Perm_count)),
  (4, .istore_n 3, 1, .inl (0, 0)),
  (5, .iconst 0, 1, .inr (.inr (.inl (nI 0)))),
  (6, .istore 4, 2, .inl (0, 0)),
  (8, .iload 4, 2, .inl (0, 0)),
  (10, .iload_n 3, 1, .inl (0, 0)),
  (11, .if_icmp .ge 31, 3, .inl (42, 0)),
  (14, .iload 4, 2, .inl (0, 0)),
  (16, .iload_n 2, 1, .inl (0, 0)),
  (17, .invokestatic 43, 3, .inr (.inl g_Perm_numbered)),
  (20, .istore 5, 2, .inl (0, 0)),
  (22, .iload 5, 2, .inl (0, 0)),
  (24, .iload_n 1, 1, .inl (0, 0)),
  (25, .iload_n 2, 1, .inl (0, 0)),
  (26, .invokestatic 46, 3, .inr (.inl g_Perm_repeated)),
  (29, .iload_n 0, 1, .inl (0, 0)),
  (30, .if_icmp .ne 6, 3, .inl (36, 0)),
  (33, .iload 5, 2, .inl (0, 0)),
  (35, .ireturn, 1, .inl (0, 0)),
  (36, .iinc 4 1, 3, .inr (.inr (.inl (nI 1)))),
  (39, .goto (-31), 3, .inl (8, 0)),
  (42, .iconst (-1), 1, .inr (.inr (.inl (-1)))),
  (43, .ireturn, 1, .inl (0, 0))]
set_option maxRecDepth 100000 in
set_option maxHeartbeats 4000000 in
theorem ok_Perm_firstRoot : xOK g_Perm_firstRoot k_Perm_firstRoot := ⟨by decide +kernel, by decide +kernel, List.forall_mem_cons.mpr ⟨trivial, List.forall_mem_cons.mpr ⟨⟨ml_Perm_40, xms_Perm_count⟩, List.forall_mem_cons.mpr ⟨trivial, List.forall_mem_cons.mpr ⟨trivial, List.forall_mem_cons.mpr ⟨trivial, List.forall_mem_cons.mpr ⟨trivial, List.forall_mem_cons.mpr ⟨trivial, List.forall_mem_cons.mpr ⟨trivial, List.forall_mem_cons.mpr ⟨trivial, List.forall_mem_cons.mpr ⟨trivial, List.forall_mem_cons.mpr ⟨⟨ml_Perm_43, xms_Perm_numbered⟩, List.forall_mem_cons.mpr ⟨trivial, List.forall_mem_cons.mpr ⟨trivial, List.forall_mem_cons.mpr ⟨trivial, List.forall_mem_cons.mpr ⟨trivial, List.forall_mem_cons.mpr ⟨⟨ml_Perm_46, xms_Perm_repeated⟩, List.forall_mem_cons.mpr ⟨trivial, List.forall_mem_cons.mpr ⟨trivial, List.forall_mem_cons.mpr ⟨trivial, List.forall_mem_cons.mpr ⟨trivial, List.forall_mem_cons.mpr ⟨trivial, List.forall_mem_cons.mpr ⟨trivial, List.forall_mem_cons.mpr ⟨trivial, List.forall_mem_cons.mpr ⟨trivial, fun _ h => absurd h List.not_mem_nil⟩⟩⟩⟩⟩⟩⟩⟩⟩⟩⟩⟩⟩⟩⟩⟩⟩⟩⟩⟩⟩⟩⟩⟩⟩
def k_Perm_order : xCd := [
  (0, .iload_n 1, 1, .inl (0, 0)),
  (1, .invokestatic 34, 3, .inr (.inl g_Row_ascending)),
  (4, .istore_n 2, 1, .inl (0, 0)),
  (5, .iload_n 0, 1, .inl (0, 0)),
  (6, .istore_n 3, 1, .inl (0, 0)),
  (7, .iconst 1, 1, .inr (.inr (.inl (nI 1)))),
  (8, .istore 4, 2, .inl (0, 0)),
  (10, .iload_n 3, 1, .inl (0, 0)),
  (11, .iload_n 2, 1, .inl (0, 0)),
  (12, .if_icmp .eq 23, 3, .inl (35, 0)),
  (15, .iload 4, 2, .inl (0, 0)),
  (17, .bipush 12, 2, .inr (.inr (.inl (nI 12)))),
  (19, .if_icmp .ge 16, 3, .inl (35, 0)),
  (22, .iload_n 3, 1, .inl (0, 0)),
  (23, .iload_n 0, 1, .inl (0, 0)),
  (24, .iload_n 1, 1, .inl (0, 0)),
  (25, .invokestatic 37, 3, .inr (.inl g_Row_turned)),
  (28, .istore_n 3, 1, .inl (0, 0)),
  (29, .iinc 4 1, 3, .inr (.inr (.inl (nI 1)))),
  (32, .goto (-22), 3, .inl (10, 0)),
  (35, .iload 4, 2, .inl (0, 0)),
  (37, .ireturn, 1, .inl (0, 0))]
set_option maxRecDepth 100000 in
set_option maxHeartbeats 4000000 in
theorem ok_Perm_order : xOK g_Perm_order k_Perm_order := ⟨by decide +kernel, by decide +kernel, List.forall_mem_cons.mpr ⟨trivial, List.forall_mem_cons.mpr ⟨⟨ml_Perm_34, xms_Row_ascending⟩, List.forall_mem_cons.mpr ⟨trivial, List.forall_mem_cons.mpr ⟨trivial, List.forall_mem_cons.mpr ⟨trivial, List.forall_mem_cons.mpr ⟨trivial, List.forall_mem_cons.mpr ⟨trivial, List.forall_mem_cons.mpr ⟨trivial, List.forall_mem_cons.mpr ⟨trivial, List.forall_mem_cons.mpr ⟨trivial, List.forall_mem_cons.mpr ⟨trivial, List.forall_mem_cons.mpr ⟨trivial, List.forall_mem_cons.mpr ⟨trivial, List.forall_mem_cons.mpr ⟨trivial, List.forall_mem_cons.mpr ⟨trivial, List.forall_mem_cons.mpr ⟨trivial, List.forall_mem_cons.mpr ⟨⟨ml_Perm_37, xms_Row_turned⟩, List.forall_mem_cons.mpr ⟨trivial, List.forall_mem_cons.mpr ⟨trivial, List.forall_mem_cons.mpr ⟨trivial, List.forall_mem_cons.mpr ⟨trivial, List.forall_mem_cons.mpr ⟨trivial, fun _ h => absurd h List.not_mem_nil⟩⟩⟩⟩⟩⟩⟩⟩⟩⟩⟩⟩⟩⟩⟩⟩⟩⟩⟩⟩⟩⟩⟩
def k_Perm_cycleOf : xCd := [
  (0, .iload_n 0, 1, .inl (0, 0)),
  (1, .iload_n 1, 1, .inl (0, 0)),
  (2, .invokestatic 9, 3, .inr (.inl g_Row_entry)),
  (5, .istore_n 3, 1, .inl (0, 0)),
  (6, .iconst 1, 1, .inr (.inr (.inl (nI 1)))),
  (7, .istore 4, 2, .inl (0, 0)),
  (9, .iload_n 3, 1, .inl (0, 0)),
  (10, .iload_n 1, 1, .inl (0, 0)),
  (11, .if_icmp .le 21, 3, .inl (32, 0)),
  (14, .iload 4, 2, .inl (0, 0)),
  (16, .iload_n 2, 1, .inl (0, 0)),
  (17, .if_icmp .ge 15, 3, .inl (32, 0)),
  (20, .iload_n 0, 1, .inl (0, 0)),
  (21, .iload_n 3, 1, .inl (0, 0)),
  (22, .invokestatic 9, 3, .inr (.inl g_Row_entry)),
  (25, .istore_n 3, 1, .inl (0, 0)),
  (26, .iinc 4 1, 3, .inr (.inr (.inl (nI 1)))),
  (29, .goto (-20), 3, .inl (9, 0)),
  (32, .iload_n 3, 1, .inl (0, 0)),
  (33, .iload_n 1, 1, .inl (0, 0)),
  (34, .if_icmp .ne 8, 3, .inl (42, 0)),
  (37, .iload 4, 2, .inl (0, 0)),
  (39, .goto 4, 3, .inl (43, 0)),
  (42, .iconst 0, 1, .inr (.inr (.inl (nI 0)))),
  (43, .ireturn, 1, .inl (0, 0))]
set_option maxRecDepth 100000 in
set_option maxHeartbeats 4000000 in
theorem ok_Perm_cycleOf : xOK g_Perm_cycleOf k_Perm_cycleOf := ⟨by decide +kernel, by decide +kernel, List.forall_mem_cons.mpr ⟨trivial, List.forall_mem_cons.mpr ⟨trivial, List.forall_mem_cons.mpr ⟨⟨ml_Perm_9, xms_Row_entry⟩, List.forall_mem_cons.mpr ⟨trivial, List.forall_mem_cons.mpr ⟨trivial, List.forall_mem_cons.mpr ⟨trivial, List.forall_mem_cons.mpr ⟨trivial, List.forall_mem_cons.mpr ⟨trivial, List.forall_mem_cons.mpr ⟨trivial, List.forall_mem_cons.mpr ⟨trivial, List.forall_mem_cons.mpr ⟨trivial, List.forall_mem_cons.mpr ⟨trivial, List.forall_mem_cons.mpr ⟨trivial, List.forall_mem_cons.mpr ⟨trivial, List.forall_mem_cons.mpr ⟨⟨ml_Perm_9, xms_Row_entry⟩, List.forall_mem_cons.mpr ⟨trivial, List.forall_mem_cons.mpr ⟨trivial, List.forall_mem_cons.mpr ⟨trivial, List.forall_mem_cons.mpr ⟨trivial, List.forall_mem_cons.mpr ⟨trivial, List.forall_mem_cons.mpr ⟨trivial, List.forall_mem_cons.mpr ⟨trivial, List.forall_mem_cons.mpr ⟨trivial, List.forall_mem_cons.mpr ⟨trivial, List.forall_mem_cons.mpr ⟨trivial, fun _ h => absurd h List.not_mem_nil⟩⟩⟩⟩⟩⟩⟩⟩⟩⟩⟩⟩⟩⟩⟩⟩⟩⟩⟩⟩⟩⟩⟩⟩⟩⟩
def k_Perm_cycles : xCd := [
  (0, .iconst 0, 1, .inr (.inr (.inl (nI 0)))),
  (1, .istore_n 2, 1, .inl (0, 0)),
  (2, .iconst 0, 1, .inr (.inr (.inl (nI 0)))),
  (3, .istore_n 3, 1, .inl (0, 0)),
  (4, .iload_n 3, 1, .inl (0, 0)),
  (5, .iload_n 1, 1, .inl (0, 0)),
  (6, .if_icmp .ge 21, 3, .inl (27, 0)),
  (9, .iload_n 0, 1, .inl (0, 0)),
  (10, .iload_n 3, 1, .inl (0, 0)),
  (11, .iload_n 1, 1, .inl (0, 0)),
  (12, .invokestatic 67, 3, .inr (.inl g_Perm_cycleOf)),
  (15, .ifCond .le 6, 3, .inl (21, 0)),
  (18, .iinc 2 1, 3, .inr (.inr (.inl (nI 1)))),
  (21, .iinc 3 1, 3, .inr (.inr (.inl (nI 1)))),
  (24, .goto (-20), 3, .inl (4, 0)),
  (27, .iload_n 2, 1, .inl (0, 0)),
  (28, .ireturn, 1, .inl (0, 0))]
set_option maxRecDepth 100000 in
set_option maxHeartbeats 4000000 in
theorem ok_Perm_cycles : xOK g_Perm_cycles k_Perm_cycles := ⟨by decide +kernel, by decide +kernel, List.forall_mem_cons.mpr ⟨trivial, List.forall_mem_cons.mpr ⟨trivial, List.forall_mem_cons.mpr ⟨trivial, List.forall_mem_cons.mpr ⟨trivial, List.forall_mem_cons.mpr ⟨trivial, List.forall_mem_cons.mpr ⟨trivial, List.forall_mem_cons.mpr ⟨trivial, List.forall_mem_cons.mpr ⟨trivial, List.forall_mem_cons.mpr ⟨trivial, List.forall_mem_cons.mpr ⟨trivial, List.forall_mem_cons.mpr ⟨⟨ml_Perm_67, xms_Perm_cycleOf⟩, List.forall_mem_cons.mpr ⟨trivial, List.forall_mem_cons.mpr ⟨trivial, List.forall_mem_cons.mpr ⟨trivial, List.forall_mem_cons.mpr ⟨trivial, List.forall_mem_cons.mpr ⟨trivial, List.forall_mem_cons.mpr ⟨trivial, fun _ h => absurd h List.not_mem_nil⟩⟩⟩⟩⟩⟩⟩⟩⟩⟩⟩⟩⟩⟩⟩⟩⟩⟩
def k_Perm_fixedLines : xCd := [
  (0, .iconst 0, 1, .inr (.inr (.inl (nI 0)))),
  (1, .istore_n 2, 1, .inl (0, 0)),
  (2, .iconst 0, 1, .inr (.inr (.inl (nI 0)))),
  (3, .istore_n 3, 1, .inl (0, 0)),
  (4, .iload_n 3, 1, .inl (0, 0)),
  (5, .iload_n 1, 1, .inl (0, 0)),
  (6, .if_icmp .ge 21, 3, .inl (27, 0)),
  (9, .iload_n 0, 1, .inl (0, 0)),
  (10, .iload_n 3, 1, .inl (0, 0)),
  (11, .invokestatic 9, 3, .inr (.inl g_Row_entry)),
  (14, .iload_n 3, 1, .inl (0, 0)),
  (15, .if_icmp .ne 6, 3, .inl (21, 0)),
  (18, .iinc 2 1, 3, .inr (.inr (.inl (nI 1)))),
  (21, .iinc 3 1, 3, .inr (.inr (.inl (nI 1)))),
  (24, .goto (-20), 3, .inl (4, 0)),
  (27, .iload_n 2, 1, .inl (0, 0)),
  (28, .ireturn, 1, .inl (0, 0))]
set_option maxRecDepth 100000 in
set_option maxHeartbeats 4000000 in
theorem ok_Perm_fixedLines : xOK g_Perm_fixedLines k_Perm_fixedLines := ⟨by decide +kernel, by decide +kernel, List.forall_mem_cons.mpr ⟨trivial, List.forall_mem_cons.mpr ⟨trivial, List.forall_mem_cons.mpr ⟨trivial, List.forall_mem_cons.mpr ⟨trivial, List.forall_mem_cons.mpr ⟨trivial, List.forall_mem_cons.mpr ⟨trivial, List.forall_mem_cons.mpr ⟨trivial, List.forall_mem_cons.mpr ⟨trivial, List.forall_mem_cons.mpr ⟨trivial, List.forall_mem_cons.mpr ⟨⟨ml_Perm_9, xms_Row_entry⟩, List.forall_mem_cons.mpr ⟨trivial, List.forall_mem_cons.mpr ⟨trivial, List.forall_mem_cons.mpr ⟨trivial, List.forall_mem_cons.mpr ⟨trivial, List.forall_mem_cons.mpr ⟨trivial, List.forall_mem_cons.mpr ⟨trivial, List.forall_mem_cons.mpr ⟨trivial, fun _ h => absurd h List.not_mem_nil⟩⟩⟩⟩⟩⟩⟩⟩⟩⟩⟩⟩⟩⟩⟩⟩⟩⟩
def k_Perm_longestCycle : xCd := [
  (0, .iconst 0, 1, .inr (.inr (.inl (nI 0)))),
  (1, .istore_n 2, 1, .inl (0, 0)),
  (2, .iconst 0, 1, .inr (.inr (.inl (nI 0)))),
  (3, .istore_n 3, 1, .inl (0, 0)),
  (4, .iload_n 3, 1, .inl (0, 0)),
  (5, .iload_n 1, 1, .inl (0, 0)),
  (6, .if_icmp .ge 20, 3, .inl (26, 0)),
  (9, .iload_n 2, 1, .inl (0, 0)),
  (10, .iload_n 0, 1, .inl (0, 0)),
  (11, .iload_n 3, 1, .inl (0, 0)),
  (12, .iload_n 1, 1, .inl (0, 0)),
  (13, .invokestatic 67, 3, .inr (.inl g_Perm_cycleOf)),
  (16, .invokestatic 70, 3, .inr (.inr (.inr (.inr (0, []))))),
  (19, .istore_n 2, 1, .inl (0, 0)),
  (20, .iinc 3 1, 3, .inr (.inr (.inl (nI 1)))),
  (23, .goto (-19), 3, .inl (4, 0)),
  (26, .iload_n 2, 1, .inl (0, 0)),
  (27, .ireturn, 1, .inl (0, 0))]
set_option maxRecDepth 100000 in
set_option maxHeartbeats 4000000 in
theorem ok_Perm_longestCycle : xOK g_Perm_longestCycle k_Perm_longestCycle := ⟨by decide +kernel, by decide +kernel, List.forall_mem_cons.mpr ⟨trivial, List.forall_mem_cons.mpr ⟨trivial, List.forall_mem_cons.mpr ⟨trivial, List.forall_mem_cons.mpr ⟨trivial, List.forall_mem_cons.mpr ⟨trivial, List.forall_mem_cons.mpr ⟨trivial, List.forall_mem_cons.mpr ⟨trivial, List.forall_mem_cons.mpr ⟨trivial, List.forall_mem_cons.mpr ⟨trivial, List.forall_mem_cons.mpr ⟨trivial, List.forall_mem_cons.mpr ⟨trivial, List.forall_mem_cons.mpr ⟨⟨ml_Perm_67, xms_Perm_cycleOf⟩, List.forall_mem_cons.mpr ⟨⟨lw_gm 327 rfl rfl, lw_gm 328 rfl rfl, lw_gm 27 rfl rfl, lw_gm 329 rfl rfl⟩, List.forall_mem_cons.mpr ⟨trivial, List.forall_mem_cons.mpr ⟨trivial, List.forall_mem_cons.mpr ⟨trivial, List.forall_mem_cons.mpr ⟨trivial, List.forall_mem_cons.mpr ⟨trivial, fun _ h => absurd h List.not_mem_nil⟩⟩⟩⟩⟩⟩⟩⟩⟩⟩⟩⟩⟩⟩⟩⟩⟩⟩⟩
def k_Perm_cycleType : xCd := [
  (0, .iconst 0, 1, .inr (.inr (.inl (nI 0)))),
  (1, .istore_n 2, 1, .inl (0, 0)),
  (2, .iconst 0, 1, .inr (.inr (.inl (nI 0)))),
  (3, .istore_n 3, 1, .inl (0, 0)),
  (4, .iload_n 3, 1, .inl (0, 0)),
  (5, .iload_n 1, 1, .inl (0, 0)),
  (6, .if_icmp .ge 33, 3, .inl (39, 0)),
  (9, .iload_n 0, 1, .inl (0, 0)),
  (10, .iload_n 3, 1, .inl (0, 0)),
  (11, .iload_n 1, 1, .inl (0, 0)),
  (12, .invokestatic 67, 3, .inr (.inl g_Perm_cycleOf)),
  (15, .istore 4, 2, .inl (0, 0)),
  (17, .iload 4, 2, .inl (0, 0)),
  (19, .ifCond .le 14, 3, .inl (33, 0)),
  (22, .iload_n 2, 1, .inl (0, 0)),
  (23, .iconst 1, 1, .inr (.inr (.inl (nI 1)))),
  (24, .iconst 3, 1, .inr (.inr (.inl (nI 3)))),
  (25, .iload 4, 2, .inl (0, 0)),
  (27, .iconst 1, 1, .inr (.inr (.inl (nI 1)))),
  (28, .isub, 1, .inl (0, 0)),
  (29, .imul, 1, .inl (0, 0)),
  (30, .ishl, 1, .inl (0, 0)),
  (31, .iadd, 1, .inl (0, 0)),
  (32, .istore_n 2, 1, .inl (0, 0)),
  (33, .iinc 3 1, 3, .inr (.inr (.inl (nI 1)))),
  (36, .goto (-32), 3, .inl (4, 0)),
  (39, .iload_n 2, 1, .inl (0, 0)),
  (40, .ireturn, 1, .inl (0, 0))]
set_option maxRecDepth 100000 in
set_option maxHeartbeats 4000000 in
theorem ok_Perm_cycleType : xOK g_Perm_cycleType k_Perm_cycleType := ⟨by decide +kernel, by decide +kernel, List.forall_mem_cons.mpr ⟨trivial, List.forall_mem_cons.mpr ⟨trivial, List.forall_mem_cons.mpr ⟨trivial, List.forall_mem_cons.mpr ⟨trivial, List.forall_mem_cons.mpr ⟨trivial, List.forall_mem_cons.mpr ⟨trivial, List.forall_mem_cons.mpr ⟨trivial, List.forall_mem_cons.mpr ⟨trivial, List.forall_mem_cons.mpr ⟨trivial, List.forall_mem_cons.mpr ⟨trivial, List.forall_mem_cons.mpr ⟨⟨ml_Perm_67, xms_Perm_cycleOf⟩, List.forall_mem_cons.mpr ⟨trivial, List.forall_mem_cons.mpr ⟨trivial, List.forall_mem_cons.mpr ⟨trivial, List.forall_mem_cons.mpr ⟨trivial, List.forall_mem_cons.mpr ⟨trivial, List.forall_mem_cons.mpr ⟨trivial, List.forall_mem_cons.mpr ⟨trivial, List.forall_mem_cons.mpr ⟨trivial, List.forall_mem_cons.mpr ⟨trivial, List.forall_mem_cons.mpr ⟨trivial, List.forall_mem_cons.mpr ⟨trivial, List.forall_mem_cons.mpr ⟨trivial, List.forall_mem_cons.mpr ⟨trivial, List.forall_mem_cons.mpr ⟨trivial, List.forall_mem_cons.mpr ⟨trivial, List.forall_mem_cons.mpr ⟨trivial, List.forall_mem_cons.mpr ⟨trivial, fun _ h => absurd h List.not_mem_nil⟩⟩⟩⟩⟩⟩⟩⟩⟩⟩⟩⟩⟩⟩⟩⟩⟩⟩⟩⟩⟩⟩⟩⟩⟩⟩⟩⟩⟩
def k_Perm_property : xCd := [
  (0, .iload_n 1, 1, .inl (0, 0)),
  (1, .tableswitch 79 0 5 #[39, 45, 51, 57, 63, 69], 39, .inr (.inr (.inr (.inr (80, [(nI 0, 40), (nI 1, 46), (nI 2, 52), (nI 3, 58), (nI 4, 64), (nI 5, 70)]))))),
  (40, .iload_n 0, 1, .inl (0, 0)),
  (41, .iload_n 2, 1, .inl (0, 0)),
  (42, .invokestatic 49, 3, .inr (.inl g_Perm_number)),
  (45, .ireturn, 1, .inl (0, 0)),
  (46, .iload_n 0, 1, .inl (0, 0)),
  (47, .iload_n 2, 1, .inl (0, 0)),
  (48, .invokestatic 52, 3, .inr (.inl g_Perm_order)),
  (51, .ireturn, 1, .inl (0, 0)),
  (52, .iload_n 0, 1, .inl (0, 0)),
  (53, .iload_n 2, 1, .inl (0, 0)),
  (54, .invokestatic 55, 3, .inr (.inl g_Perm_cycles)),
  (57, .ireturn, 1, .inl (0, 0)),
  (58, .iload_n 0, 1, .inl (0, 0)),
  (59, .iload_n 2, 1, .inl (0, 0)),
  (60, .invokestatic 58, 3, .inr (.inl g_Perm_fixedLines)),
  (63, .ireturn, 1, .inl (0, 0)),
  (64, .iload_n 0, 1, .inl (0, 0)),
  (65, .iload_n 2, 1, .inl (0, 0)),
  (66, .invokestatic 61, 3, .inr (.inl g_Perm_longestCycle)),
  (69, .ireturn, 1, .inl (0, 0)),
  (70, .iload_n 2, 1, .inl (0, 0)),
  (71, .iload_n 0, 1, .inl (0, 0)),
  (72, .iload_n 2, 1, .inl (0, 0)),
  (73, .invokestatic 55, 3, .inr (.inl g_Perm_cycles)),
  (76, .isub, 1, .inl (0, 0)),
  (77, .iconst 1, 1, .inr (.inr (.inl (nI 1)))),
  (78, .iand, 1, .inl (0, 0)),
  (79, .ireturn, 1, .inl (0, 0)),
  (80, .iload_n 0, 1, .inl (0, 0)),
  (81, .iload_n 2, 1, .inl (0, 0)),
  (82, .invokestatic 64, 3, .inr (.inl g_Perm_cycleType)),
  (85, .ireturn, 1, .inl (0, 0))]
set_option maxRecDepth 100000 in
set_option maxHeartbeats 4000000 in
theorem ok_Perm_property : xOK g_Perm_property k_Perm_property := ⟨by decide +kernel, by decide +kernel, List.forall_mem_cons.mpr ⟨trivial, List.forall_mem_cons.mpr ⟨trivial, List.forall_mem_cons.mpr ⟨trivial, List.forall_mem_cons.mpr ⟨trivial, List.forall_mem_cons.mpr ⟨⟨ml_Perm_49, xms_Perm_number⟩, List.forall_mem_cons.mpr ⟨trivial, List.forall_mem_cons.mpr ⟨trivial, List.forall_mem_cons.mpr ⟨trivial, List.forall_mem_cons.mpr ⟨⟨ml_Perm_52, xms_Perm_order⟩, List.forall_mem_cons.mpr ⟨trivial, List.forall_mem_cons.mpr ⟨trivial, List.forall_mem_cons.mpr ⟨trivial, List.forall_mem_cons.mpr ⟨⟨ml_Perm_55, xms_Perm_cycles⟩, List.forall_mem_cons.mpr ⟨trivial, List.forall_mem_cons.mpr ⟨trivial, List.forall_mem_cons.mpr ⟨trivial, List.forall_mem_cons.mpr ⟨⟨ml_Perm_58, xms_Perm_fixedLines⟩, List.forall_mem_cons.mpr ⟨trivial, List.forall_mem_cons.mpr ⟨trivial, List.forall_mem_cons.mpr ⟨trivial, List.forall_mem_cons.mpr ⟨⟨ml_Perm_61, xms_Perm_longestCycle⟩, List.forall_mem_cons.mpr ⟨trivial, List.forall_mem_cons.mpr ⟨trivial, List.forall_mem_cons.mpr ⟨trivial, List.forall_mem_cons.mpr ⟨trivial, List.forall_mem_cons.mpr ⟨⟨ml_Perm_55, xms_Perm_cycles⟩, List.forall_mem_cons.mpr ⟨trivial, List.forall_mem_cons.mpr ⟨trivial, List.forall_mem_cons.mpr ⟨trivial, List.forall_mem_cons.mpr ⟨trivial, List.forall_mem_cons.mpr ⟨trivial, List.forall_mem_cons.mpr ⟨trivial, List.forall_mem_cons.mpr ⟨⟨ml_Perm_64, xms_Perm_cycleType⟩, List.forall_mem_cons.mpr ⟨trivial, fun _ h => absurd h List.not_mem_nil⟩⟩⟩⟩⟩⟩⟩⟩⟩⟩⟩⟩⟩⟩⟩⟩⟩⟩⟩⟩⟩⟩⟩⟩⟩⟩⟩⟩⟩⟩⟩⟩⟩⟩⟩
def k_Row_entries : xCd := [
  (0, .iconst 0, 1, .inr (.inr (.inl (nI 0)))),
  (1, .istore_n 2, 1, .inl (0, 0)),
  (2, .iconst 0, 1, .inr (.inr (.inl (nI 0)))),
  (3, .istore_n 3, 1, .inl (0, 0)),
  (4, .iload_n 3, 1, .inl (0, 0)),
  (5, .iload_n 1, 1, .inl (0, 0)),
  (6, .if_icmp .ge 19, 3, .inl (25, 0)),
  (9, .iload_n 2, 1, .inl (0, 0)),
  (10, .iconst 1, 1, .inr (.inr (.inl (nI 1)))),
  (11, .iload_n 0, 1, .inl (0, 0)),
  (12, .iload_n 3, 1, .inl (0, 0)),
  (13, .invokestatic 13, 3, .inr (.inl g_Row_entry)),
  (16, .ishl, 1, .inl (0, 0)),
  (17, .ior, 1, .inl (0, 0)),
  (18, .istore_n 2, 1, .inl (0, 0)),
  (19, .iinc 3 1, 3, .inr (.inr (.inl (nI 1)))),
  (22, .goto (-18), 3, .inl (4, 0)),
  (25, .iload_n 2, 1, .inl (0, 0)),
  (26, .ireturn, 1, .inl (0, 0))]
set_option maxRecDepth 100000 in
set_option maxHeartbeats 4000000 in
theorem ok_Row_entries : xOK g_Row_entries k_Row_entries := ⟨by decide +kernel, by decide +kernel, List.forall_mem_cons.mpr ⟨trivial, List.forall_mem_cons.mpr ⟨trivial, List.forall_mem_cons.mpr ⟨trivial, List.forall_mem_cons.mpr ⟨trivial, List.forall_mem_cons.mpr ⟨trivial, List.forall_mem_cons.mpr ⟨trivial, List.forall_mem_cons.mpr ⟨trivial, List.forall_mem_cons.mpr ⟨trivial, List.forall_mem_cons.mpr ⟨trivial, List.forall_mem_cons.mpr ⟨trivial, List.forall_mem_cons.mpr ⟨trivial, List.forall_mem_cons.mpr ⟨⟨ml_Row_13, xms_Row_entry⟩, List.forall_mem_cons.mpr ⟨trivial, List.forall_mem_cons.mpr ⟨trivial, List.forall_mem_cons.mpr ⟨trivial, List.forall_mem_cons.mpr ⟨trivial, List.forall_mem_cons.mpr ⟨trivial, List.forall_mem_cons.mpr ⟨trivial, List.forall_mem_cons.mpr ⟨trivial, fun _ h => absurd h List.not_mem_nil⟩⟩⟩⟩⟩⟩⟩⟩⟩⟩⟩⟩⟩⟩⟩⟩⟩⟩⟩⟩
def k_Row_hasEach : xCd := [
  (0, .iload_n 0, 1, .inl (0, 0)),
  (1, .iload_n 1, 1, .inl (0, 0)),
  (2, .invokestatic 17, 3, .inr (.inl g_Row_entries)),
  (5, .iconst 1, 1, .inr (.inr (.inl (nI 1)))),
  (6, .iload_n 1, 1, .inl (0, 0)),
  (7, .ishl, 1, .inl (0, 0)),
  (8, .iconst 1, 1, .inr (.inr (.inl (nI 1)))),
  (9, .isub, 1, .inl (0, 0)),
  (10, .if_icmp .ne 7, 3, .inl (17, 0)),
  (13, .iconst 1, 1, .inr (.inr (.inl (nI 1)))),
  (14, .goto 4, 3, .inl (18, 0)),
  (17, .iconst 0, 1, .inr (.inr (.inl (nI 0)))),
  (18, .ireturn, 1, .inl (0, 0))]
set_option maxRecDepth 100000 in
set_option maxHeartbeats 4000000 in
theorem ok_Row_hasEach : xOK g_Row_hasEach k_Row_hasEach := ⟨by decide +kernel, by decide +kernel, List.forall_mem_cons.mpr ⟨trivial, List.forall_mem_cons.mpr ⟨trivial, List.forall_mem_cons.mpr ⟨⟨ml_Row_17, xms_Row_entries⟩, List.forall_mem_cons.mpr ⟨trivial, List.forall_mem_cons.mpr ⟨trivial, List.forall_mem_cons.mpr ⟨trivial, List.forall_mem_cons.mpr ⟨trivial, List.forall_mem_cons.mpr ⟨trivial, List.forall_mem_cons.mpr ⟨trivial, List.forall_mem_cons.mpr ⟨trivial, List.forall_mem_cons.mpr ⟨trivial, List.forall_mem_cons.mpr ⟨trivial, List.forall_mem_cons.mpr ⟨trivial, fun _ h => absurd h List.not_mem_nil⟩⟩⟩⟩⟩⟩⟩⟩⟩⟩⟩⟩⟩⟩
def k_Txt_init : xCd := [
  (0, .aload_n 0, 1, .inl (0, 0)),
  (1, .invokespecial 3, 3, .inl (0, 0)),
  (4, .aload_n 0, 1, .inl (0, 0)),
  (5, .iconst 0, 1, .inr (.inr (.inl (nI 0)))),
  (6, .putfield 9, 3, .inl (6, 0)),
  (9, .aload_n 0, 1, .inl (0, 0)),
  (10, .bipush 80, 2, .inr (.inr (.inl (nI 80)))),
  (12, .newarray .int, 2, .inl (0, 0)),
  (14, .putfield 15, 3, .inl (6, 1)),
  (17, .return_, 1, .inl (0, 0))]
set_option maxRecDepth 100000 in
set_option maxHeartbeats 4000000 in
theorem ok_Txt_init : xOK g_Txt_init k_Txt_init := ⟨by decide +kernel, by decide +kernel, List.forall_mem_cons.mpr ⟨trivial, List.forall_mem_cons.mpr ⟨⟨lw_gm 137 rfl rfl, lw_gm 36 rfl rfl, lw_gm 37 rfl rfl⟩, List.forall_mem_cons.mpr ⟨trivial, List.forall_mem_cons.mpr ⟨trivial, List.forall_mem_cons.mpr ⟨⟨fl_Txt_9, nf_6_0 _⟩, List.forall_mem_cons.mpr ⟨trivial, List.forall_mem_cons.mpr ⟨trivial, List.forall_mem_cons.mpr ⟨lw_gm 75 rfl rfl, List.forall_mem_cons.mpr ⟨⟨fl_Txt_15, fun r hr _ => by cases hr; exact ⟨rfl, rfl⟩⟩, List.forall_mem_cons.mpr ⟨trivial, fun _ h => absurd h List.not_mem_nil⟩⟩⟩⟩⟩⟩⟩⟩⟩⟩⟩
def k_TR_init : xCd := [
  (0, .aload_n 0, 1, .inl (0, 0)),
  (1, .invokespecial 3, 3, .inl (0, 0)),
  (4, .aload_n 0, 1, .inl (0, 0)),
  (5, .iconst 0, 1, .inr (.inr (.inl (nI 0)))),
  (6, .putfield 9, 3, .inl (7, 0)),
  (9, .return_, 1, .inl (0, 0))]
set_option maxRecDepth 100000 in
set_option maxHeartbeats 4000000 in
theorem ok_TR_init : xOK g_TR_init k_TR_init := ⟨by decide +kernel, by decide +kernel, List.forall_mem_cons.mpr ⟨trivial, List.forall_mem_cons.mpr ⟨⟨lw_gm 169 rfl rfl, lw_gm 36 rfl rfl, lw_gm 37 rfl rfl⟩, List.forall_mem_cons.mpr ⟨trivial, List.forall_mem_cons.mpr ⟨trivial, List.forall_mem_cons.mpr ⟨⟨fl_TR_9, nf_7_0 _⟩, List.forall_mem_cons.mpr ⟨trivial, fun _ h => absurd h List.not_mem_nil⟩⟩⟩⟩⟩⟩⟩
end
section
/-! CODE, decoded, with its links; checked once -/
def k_Fit_init : xCd := [
  (0, .aload_n 0, 1, .inl (0, 0)),
  (1, .invokespecial 3, 3, .inl (0, 0)),
  (4, .aload_n 0, 1, .inl (0, 0)),
  (5, .iconst 0, 1, .inr (.inr (.inl (nI 0)))),
  (6, .putfield 9, 3, .inl (0, 0)),
  (9, .aload_n 0, 1, .inl (0, 0)),
  (10, .bipush 64, 2, .inr (.inr (.inl (nI 64)))),
  (12, .newarray .int, 2, .inl (0, 0)),
  (14, .putfield 15, 3, .inl (0, 1)),
  (17, .aload_n 0, 1, .inl (0, 0)),
  (18, .bipush 8, 2, .inr (.inr (.inl (nI 8)))),
  (20, .newarray .int, 2, .inl (0, 0)),
  (22, .putfield 19, 3, .inl (0, 2)),
  (25, .aload_n 0, 1, .inl (0, 0)),
  (26, .sipush 128, 3, .inr (.inr (.inl (nI 128)))),
  (29, .newarray .int, 2, .inl (0, 0)),
  (31, .putfield 22, 3, .inl (0, 3)),
  (34, .return_, 1, .inl (0, 0))]
set_option maxRecDepth 100000 in
set_option maxHeartbeats 4000000 in
theorem ok_Fit_init : xOK g_Fit_init k_Fit_init := ⟨by decide +kernel, by decide +kernel, List.forall_mem_cons.mpr ⟨trivial, List.forall_mem_cons.mpr ⟨⟨lw_gm 205 rfl rfl, lw_gm 36 rfl rfl, lw_gm 37 rfl rfl⟩, List.forall_mem_cons.mpr ⟨trivial, List.forall_mem_cons.mpr ⟨trivial, List.forall_mem_cons.mpr ⟨⟨fl_Fit_9, nf_0_0 _⟩, List.forall_mem_cons.mpr ⟨trivial, List.forall_mem_cons.mpr ⟨trivial, List.forall_mem_cons.mpr ⟨lw_gm 75 rfl rfl, List.forall_mem_cons.mpr ⟨⟨fl_Fit_15, fun r hr _ => by cases hr; exact ⟨rfl, rfl⟩⟩, List.forall_mem_cons.mpr ⟨trivial, List.forall_mem_cons.mpr ⟨trivial, List.forall_mem_cons.mpr ⟨lw_gm 75 rfl rfl, List.forall_mem_cons.mpr ⟨⟨fl_Fit_19, fun r hr _ => by cases hr; exact ⟨rfl, rfl⟩⟩, List.forall_mem_cons.mpr ⟨trivial, List.forall_mem_cons.mpr ⟨trivial, List.forall_mem_cons.mpr ⟨lw_gm 75 rfl rfl, List.forall_mem_cons.mpr ⟨⟨fl_Fit_22, fun r hr _ => by cases hr; exact ⟨rfl, rfl⟩⟩, List.forall_mem_cons.mpr ⟨trivial, fun _ h => absurd h List.not_mem_nil⟩⟩⟩⟩⟩⟩⟩⟩⟩⟩⟩⟩⟩⟩⟩⟩⟩⟩⟩
def k_Fit_compare : xCd := [
  (0, .aload_n 0, 1, .inl (0, 0)),
  (1, .iload_n 3, 1, .inl (0, 0)),
  (2, .putfield 9, 3, .inl (0, 0)),
  (5, .aload_n 0, 1, .inl (0, 0)),
  (6, .getfield 15, 3, .inl (0, 1)),
  (9, .iconst 0, 1, .inr (.inr (.inl (nI 0)))),
  (10, .invokestatic 59, 3, .inr (.inl g_JA_fill)),
  (13, .aload_n 0, 1, .inl (0, 0)),
  (14, .getfield 19, 3, .inl (0, 2)),
  (17, .iconst 1, 1, .inr (.inr (.inl (nI 1)))),
  (18, .aload_n 0, 1, .inl (0, 0)),
  (19, .getfield 9, 3, .inl (0, 0)),
  (22, .ishl, 1, .inl (0, 0)),
  (23, .iconst 1, 1, .inr (.inr (.inl (nI 1)))),
  (24, .isub, 1, .inl (0, 0)),
  (25, .invokestatic 59, 3, .inr (.inl g_JA_fill)),
  (28, .aload_n 0, 1, .inl (0, 0)),
  (29, .getfield 9, 3, .inl (0, 0)),
  (32, .invokestatic 65, 3, .inr (.inl g_Row_ascending)),
  (35, .istore 4, 2, .inl (0, 0)),
  (37, .iconst 0, 1, .inr (.inr (.inl (nI 0)))),
  (38, .istore 5, 2, .inl (0, 0)),
  (40, .iload 5, 2, .inl (0, 0)),
  (42, .aload_n 1, 1, .inl (0, 0)),
  (43, .getfield 33, 3, .inl (2, 0)),
  (46, .if_icmp .ge 115, 3, .inl (161, 0)),
  (49, .iload 5, 2, .inl (0, 0)),
  (51, .bipush 8, 2, .inr (.inr (.inl (nI 8)))),
  (53, .if_icmp .ge 108, 3, .inl (161, 0)),
  (56, .iconst 0, 1, .inr (.inr (.inl (nI 0)))),
  (57, .istore 6, 2, .inl (0, 0)),
  (59, .iload 6, 2, .inl (0, 0)),
  (61, .aload_n 0, 1, .inl (0, 0)),
  (62, .getfield 9, 3, .inl (0, 0)),
  (65, .if_icmp .ge 78, 3, .inl (143, 0)),
  (68, .iload 4, 2, .inl (0, 0)),
  (70, .iload 6, 2, .inl (0, 0)),
  (72, .invokestatic 68, 3, .inr (.inl g_Row_entry)),
  (75, .istore 7, 2, .inl (0, 0)),
  (77, .aload_n 1, 1, .inl (0, 0)),
  (78, .getfield 71, 3, .inl (2, 2)),
  (81, .iload 5, 2, .inl (0, 0)),
  (83, .iaload, 1, .inl (0, 0)),
  (84, .iload 6, 2, .inl (0, 0)),
  (86, .invokestatic 68, 3, .inr (.inl g_Row_entry)),
  (89, .istore 8, 2, .inl (0, 0)),
  (91, .aload_n 0, 1, .inl (0, 0)),
  (92, .getfield 15, 3, .inl (0, 1)),
  (95, .iload 7, 2, .inl (0, 0)),
  (97, .iconst 3, 1, .inr (.inr (.inl (nI 3)))),
  (98, .ishl, 1, .inl (0, 0)),
  (99, .iload 8, 2, .inl (0, 0)),
  (101, .ior, 1, .inl (0, 0)),
  (102, .dup2, 1, .inl (0, 0)),
  (103, .iaload, 1, .inl (0, 0)),
  (104, .iconst 1, 1, .inr (.inr (.inl (nI 1)))),
  (105, .iadd, 1, .inl (0, 0)),
  (106, .iastore, 1, .inl (0, 0)),
  (107, .aload_n 1, 1, .inl (0, 0)),
  (108, .getfield 74, 3, .inl (2, 3)),
  (111, .iload 5, 2, .inl (0, 0)),
  (113, .iaload, 1, .inl (0, 0)),
  (114, .iload 6, 2, .inl (0, 0)),
  (116, .ishr, 1, .inl (0, 0)),
  (117, .iconst 1, 1, .inr (.inr (.inl (nI 1)))),
  (118, .iand, 1, .inl (0, 0)),
  (119, .iconst 1, 1, .inr (.inr (.inl (nI 1)))),
  (120, .if_icmp .ne 17, 3, .inl (137, 0)),
  (123, .aload_n 0, 1, .inl (0, 0)),
  (124, .getfield 19, 3, .inl (0, 2)),
  (127, .iload 7, 2, .inl (0, 0)),
  (129, .dup2, 1, .inl (0, 0)),
  (130, .iaload, 1, .inl (0, 0)),
  (131, .iconst 1, 1, .inr (.inr (.inl (nI 1)))),
  (132, .iload 8, 2, .inl (0, 0)),
  (134, .ishl, 1, .inl (0, 0)),
  (135, .iand, 1, .inl (0, 0)),
  (136, .iastore, 1, .inl (0, 0)),
  (137, .iinc 6 1, 3, .inr (.inr (.inl (nI 1)))),
  (140, .goto (-81), 3, .inl (59, 0)),
  (143, .iload 4, 2, .inl (0, 0)),
  (145, .iload_n 2, 1, .inl (0, 0)),
  (146, .aload_n 0, 1, .inl (0, 0)),
  (147, .getfield 9, 3, .inl (0, 0)),
  (150, .invokestatic 77, 3, .inr (.inl g_Row_turned)),
  (153, .istore 4, 2, .inl (0, 0)),
  (155, .iinc 5 1, 3, .inr (.inr (.inl (nI 1)))),
  (158, .goto (-118), 3, .inl (40, 0)),
  (161, .return_, 1, .inl (0, 0))]
set_option maxRecDepth 100000 in
set_option maxHeartbeats 4000000 in
theorem ok_Fit_compare : xOK g_Fit_compare k_Fit_compare := ⟨by decide +kernel, by decide +kernel, List.forall_mem_cons.mpr ⟨trivial, List.forall_mem_cons.mpr ⟨trivial, List.forall_mem_cons.mpr ⟨⟨fl_Fit_9, nf_0_0 _⟩, List.forall_mem_cons.mpr ⟨trivial, List.forall_mem_cons.mpr ⟨fl_Fit_15, List.forall_mem_cons.mpr ⟨trivial, List.forall_mem_cons.mpr ⟨⟨ml_Fit_59, xms_JA_fill⟩, List.forall_mem_cons.mpr ⟨trivial, List.forall_mem_cons.mpr ⟨fl_Fit_19, List.forall_mem_cons.mpr ⟨trivial, List.forall_mem_cons.mpr ⟨trivial, List.forall_mem_cons.mpr ⟨fl_Fit_9, List.forall_mem_cons.mpr ⟨trivial, List.forall_mem_cons.mpr ⟨trivial, List.forall_mem_cons.mpr ⟨trivial, List.forall_mem_cons.mpr ⟨⟨ml_Fit_59, xms_JA_fill⟩, List.forall_mem_cons.mpr ⟨trivial, List.forall_mem_cons.mpr ⟨fl_Fit_9, List.forall_mem_cons.mpr ⟨⟨ml_Fit_65, xms_Row_ascending⟩, List.forall_mem_cons.mpr ⟨trivial, List.forall_mem_cons.mpr ⟨trivial, List.forall_mem_cons.mpr ⟨trivial, List.forall_mem_cons.mpr ⟨trivial, List.forall_mem_cons.mpr ⟨trivial, List.forall_mem_cons.mpr ⟨fl_Fit_33, List.forall_mem_cons.mpr ⟨trivial, List.forall_mem_cons.mpr ⟨trivial, List.forall_mem_cons.mpr ⟨trivial, List.forall_mem_cons.mpr ⟨trivial, List.forall_mem_cons.mpr ⟨trivial, List.forall_mem_cons.mpr ⟨trivial, List.forall_mem_cons.mpr ⟨trivial, List.forall_mem_cons.mpr ⟨trivial, List.forall_mem_cons.mpr ⟨fl_Fit_9, List.forall_mem_cons.mpr ⟨trivial, List.forall_mem_cons.mpr ⟨trivial, List.forall_mem_cons.mpr ⟨trivial, List.forall_mem_cons.mpr ⟨⟨ml_Fit_68, xms_Row_entry⟩, List.forall_mem_cons.mpr ⟨trivial, List.forall_mem_cons.mpr ⟨trivial, List.forall_mem_cons.mpr ⟨fl_Fit_71, List.forall_mem_cons.mpr ⟨trivial, List.forall_mem_cons.mpr ⟨trivial, List.forall_mem_cons.mpr ⟨trivial, List.forall_mem_cons.mpr ⟨⟨ml_Fit_68, xms_Row_entry⟩, List.forall_mem_cons.mpr ⟨trivial, List.forall_mem_cons.mpr ⟨trivial, List.forall_mem_cons.mpr ⟨fl_Fit_15, List.forall_mem_cons.mpr ⟨trivial, List.forall_mem_cons.mpr ⟨trivial, List.forall_mem_cons.mpr ⟨trivial, List.forall_mem_cons.mpr ⟨trivial, List.forall_mem_cons.mpr ⟨trivial, List.forall_mem_cons.mpr ⟨trivial, List.forall_mem_cons.mpr ⟨trivial, List.forall_mem_cons.mpr ⟨trivial, List.forall_mem_cons.mpr ⟨trivial, List.forall_mem_cons.mpr ⟨trivial, List.forall_mem_cons.mpr ⟨trivial, List.forall_mem_cons.mpr ⟨fl_Fit_74, List.forall_mem_cons.mpr ⟨trivial, List.forall_mem_cons.mpr ⟨trivial, List.forall_mem_cons.mpr ⟨trivial, List.forall_mem_cons.mpr ⟨trivial, List.forall_mem_cons.mpr ⟨trivial, List.forall_mem_cons.mpr ⟨trivial, List.forall_mem_cons.mpr ⟨trivial, List.forall_mem_cons.mpr ⟨trivial, List.forall_mem_cons.mpr ⟨trivial, List.forall_mem_cons.mpr ⟨fl_Fit_19, List.forall_mem_cons.mpr ⟨trivial, List.forall_mem_cons.mpr ⟨trivial, List.forall_mem_cons.mpr ⟨trivial, List.forall_mem_cons.mpr ⟨trivial, List.forall_mem_cons.mpr ⟨trivial, List.forall_mem_cons.mpr ⟨trivial, List.forall_mem_cons.mpr ⟨trivial, List.forall_mem_cons.mpr ⟨trivial, List.forall_mem_cons.mpr ⟨trivial, List.forall_mem_cons.mpr ⟨trivial, List.forall_mem_cons.mpr ⟨trivial, List.forall_mem_cons.mpr ⟨trivial, List.forall_mem_cons.mpr ⟨trivial, List.forall_mem_cons.mpr ⟨fl_Fit_9, List.forall_mem_cons.mpr ⟨⟨ml_Fit_77, xms_Row_turned⟩, List.forall_mem_cons.mpr ⟨trivial, List.forall_mem_cons.mpr ⟨trivial, List.forall_mem_cons.mpr ⟨trivial, List.forall_mem_cons.mpr ⟨trivial, fun _ h => absurd h List.not_mem_nil⟩⟩⟩⟩⟩⟩⟩⟩⟩⟩⟩⟩⟩⟩⟩⟩⟩⟩⟩⟩⟩⟩⟩⟩⟩⟩⟩⟩⟩⟩⟩⟩⟩⟩⟩⟩⟩⟩⟩⟩⟩⟩⟩⟩⟩⟩⟩⟩⟩⟩⟩⟩⟩⟩⟩⟩⟩⟩⟩⟩⟩⟩⟩⟩⟩⟩⟩⟩⟩⟩⟩⟩⟩⟩⟩⟩⟩⟩⟩⟩⟩⟩⟩⟩⟩⟩⟩⟩⟩⟩
def k_Fit_keptWith : xCd := [
  (0, .iconst 1, 1, .inr (.inr (.inl (nI 1)))),
  (1, .iload_n 2, 1, .inl (0, 0)),
  (2, .ishl, 1, .inl (0, 0)),
  (3, .istore 4, 2, .inl (0, 0)),
  (5, .iload_n 3, 1, .inl (0, 0)),
  (6, .iload 4, 2, .inl (0, 0)),
  (8, .iand, 1, .inl (0, 0)),
  (9, .ifCond .ne 28, 3, .inl (37, 0)),
  (12, .aload_n 0, 1, .inl (0, 0)),
  (13, .getfield 19, 3, .inl (0, 2)),
  (16, .iload_n 1, 1, .inl (0, 0)),
  (17, .iaload, 1, .inl (0, 0)),
  (18, .iload 4, 2, .inl (0, 0)),
  (20, .iand, 1, .inl (0, 0)),
  (21, .ifCond .eq 16, 3, .inl (37, 0)),
  (24, .aload_n 0, 1, .inl (0, 0)),
  (25, .getfield 22, 3, .inl (0, 3)),
  (28, .iload_n 3, 1, .inl (0, 0)),
  (29, .iload 4, 2, .inl (0, 0)),
  (31, .ior, 1, .inl (0, 0)),
  (32, .iaload, 1, .inl (0, 0)),
  (33, .iconst (-1), 1, .inr (.inr (.inl (-1)))),
  (34, .if_icmp .ne 5, 3, .inl (39, 0)),
  (37, .iconst (-1), 1, .inr (.inr (.inl (-1)))),
  (38, .ireturn, 1, .inl (0, 0)),
  (39, .aload_n 0, 1, .inl (0, 0)),
  (40, .getfield 15, 3, .inl (0, 1)),
  (43, .iload_n 1, 1, .inl (0, 0)),
  (44, .iconst 3, 1, .inr (.inr (.inl (nI 3)))),
  (45, .ishl, 1, .inl (0, 0)),
  (46, .iload_n 2, 1, .inl (0, 0)),
  (47, .ior, 1, .inl (0, 0)),
  (48, .iaload, 1, .inl (0, 0)),
  (49, .aload_n 0, 1, .inl (0, 0)),
  (50, .getfield 22, 3, .inl (0, 3)),
  (53, .iload_n 3, 1, .inl (0, 0)),
  (54, .iload 4, 2, .inl (0, 0)),
  (56, .ior, 1, .inl (0, 0)),
  (57, .iaload, 1, .inl (0, 0)),
  (58, .iadd, 1, .inl (0, 0)),
  (59, .ireturn, 1, .inl (0, 0))]
set_option maxRecDepth 100000 in
set_option maxHeartbeats 4000000 in
theorem ok_Fit_keptWith : xOK g_Fit_keptWith k_Fit_keptWith := ⟨by decide +kernel, by decide +kernel, List.forall_mem_cons.mpr ⟨trivial, List.forall_mem_cons.mpr ⟨trivial, List.forall_mem_cons.mpr ⟨trivial, List.forall_mem_cons.mpr ⟨trivial, List.forall_mem_cons.mpr ⟨trivial, List.forall_mem_cons.mpr ⟨trivial, List.forall_mem_cons.mpr ⟨trivial, List.forall_mem_cons.mpr ⟨trivial, List.forall_mem_cons.mpr ⟨trivial, List.forall_mem_cons.mpr ⟨fl_Fit_19, List.forall_mem_cons.mpr ⟨trivial, List.forall_mem_cons.mpr ⟨trivial, List.forall_mem_cons.mpr ⟨trivial, List.forall_mem_cons.mpr ⟨trivial, List.forall_mem_cons.mpr ⟨trivial, List.forall_mem_cons.mpr ⟨trivial, List.forall_mem_cons.mpr ⟨fl_Fit_22, List.forall_mem_cons.mpr ⟨trivial, List.forall_mem_cons.mpr ⟨trivial, List.forall_mem_cons.mpr ⟨trivial, List.forall_mem_cons.mpr ⟨trivial, List.forall_mem_cons.mpr ⟨trivial, List.forall_mem_cons.mpr ⟨trivial, List.forall_mem_cons.mpr ⟨trivial, List.forall_mem_cons.mpr ⟨trivial, List.forall_mem_cons.mpr ⟨trivial, List.forall_mem_cons.mpr ⟨fl_Fit_15, List.forall_mem_cons.mpr ⟨trivial, List.forall_mem_cons.mpr ⟨trivial, List.forall_mem_cons.mpr ⟨trivial, List.forall_mem_cons.mpr ⟨trivial, List.forall_mem_cons.mpr ⟨trivial, List.forall_mem_cons.mpr ⟨trivial, List.forall_mem_cons.mpr ⟨trivial, List.forall_mem_cons.mpr ⟨fl_Fit_22, List.forall_mem_cons.mpr ⟨trivial, List.forall_mem_cons.mpr ⟨trivial, List.forall_mem_cons.mpr ⟨trivial, List.forall_mem_cons.mpr ⟨trivial, List.forall_mem_cons.mpr ⟨trivial, List.forall_mem_cons.mpr ⟨trivial, fun _ h => absurd h List.not_mem_nil⟩⟩⟩⟩⟩⟩⟩⟩⟩⟩⟩⟩⟩⟩⟩⟩⟩⟩⟩⟩⟩⟩⟩⟩⟩⟩⟩⟩⟩⟩⟩⟩⟩⟩⟩⟩⟩⟩⟩⟩⟩⟩
def k_Fit_mostKept : xCd := [
  (0, .iconst 1, 1, .inr (.inr (.inl (nI 1)))),
  (1, .aload_n 0, 1, .inl (0, 0)),
  (2, .getfield 9, 3, .inl (0, 0)),
  (5, .ishl, 1, .inl (0, 0)),
  (6, .iconst 1, 1, .inr (.inr (.inl (nI 1)))),
  (7, .isub, 1, .inl (0, 0)),
  (8, .istore_n 1, 1, .inl (0, 0)),
  (9, .aload_n 0, 1, .inl (0, 0)),
  (10, .getfield 22, 3, .inl (0, 3)),
  (13, .iload_n 1, 1, .inl (0, 0)),
  (14, .iconst 0, 1, .inr (.inr (.inl (nI 0)))),
  (15, .iastore, 1, .inl (0, 0)),
  (16, .iload_n 1, 1, .inl (0, 0)),
  (17, .iconst 1, 1, .inr (.inr (.inl (nI 1)))),
  (18, .isub, 1, .inl (0, 0)),
  (19, .istore_n 2, 1, .inl (0, 0)),
  (20, .iload_n 2, 1, .inl (0, 0)),
  (21, .ifCond .lt 58, 3, .inl (79, 0)),
  (24, .iload_n 2, 1, .inl (0, 0)),
  (25, .invokestatic 80, 3, .inr (.inl g_JI_bitCount)),
  (28, .istore_n 3, 1, .inl (0, 0)),
  (29, .iconst (-1), 1, .inr (.inr (.inl (-1)))),
  (30, .istore 4, 2, .inl (0, 0)),
  (32, .iconst 0, 1, .inr (.inr (.inl (nI 0)))),
  (33, .istore 5, 2, .inl (0, 0)),
  (35, .iload 5, 2, .inl (0, 0)),
  (37, .aload_n 0, 1, .inl (0, 0)),
  (38, .getfield 9, 3, .inl (0, 0)),
  (41, .if_icmp .ge 24, 3, .inl (65, 0)),
  (44, .iload 4, 2, .inl (0, 0)),
  (46, .aload_n 0, 1, .inl (0, 0)),
  (47, .iload_n 3, 1, .inl (0, 0)),
  (48, .iload 5, 2, .inl (0, 0)),
  (50, .iload_n 2, 1, .inl (0, 0)),
  (51, .invokevirtual 85, 3, .inr (.inl g_Fit_keptWith)),
  (54, .invokestatic 88, 3, .inr (.inr (.inr (.inr (0, []))))),
  (57, .istore 4, 2, .inl (0, 0)),
  (59, .iinc 5 1, 3, .inr (.inr (.inl (nI 1)))),
  (62, .goto (-27), 3, .inl (35, 0)),
  (65, .aload_n 0, 1, .inl (0, 0)),
  (66, .getfield 22, 3, .inl (0, 3)),
  (69, .iload_n 2, 1, .inl (0, 0)),
  (70, .iload 4, 2, .inl (0, 0)),
  (72, .iastore, 1, .inl (0, 0)),
  (73, .iinc 2 (-1), 3, .inr (.inr (.inl (-1)))),
  (76, .goto (-56), 3, .inl (20, 0)),
  (79, .aload_n 0, 1, .inl (0, 0)),
  (80, .getfield 22, 3, .inl (0, 3)),
  (83, .iconst 0, 1, .inr (.inr (.inl (nI 0)))),
  (84, .iaload, 1, .inl (0, 0)),
  (85, .ireturn, 1, .inl (0, 0))]
set_option maxRecDepth 100000 in
set_option maxHeartbeats 4000000 in
theorem ok_Fit_mostKept : xOK g_Fit_mostKept k_Fit_mostKept := ⟨by decide +kernel, by decide +kernel, List.forall_mem_cons.mpr ⟨trivial, List.forall_mem_cons.mpr ⟨trivial, List.forall_mem_cons.mpr ⟨fl_Fit_9, List.forall_mem_cons.mpr ⟨trivial, List.forall_mem_cons.mpr ⟨trivial, List.forall_mem_cons.mpr ⟨trivial, List.forall_mem_cons.mpr ⟨trivial, List.forall_mem_cons.mpr ⟨trivial, List.forall_mem_cons.mpr ⟨fl_Fit_22, List.forall_mem_cons.mpr ⟨trivial, List.forall_mem_cons.mpr ⟨trivial, List.forall_mem_cons.mpr ⟨trivial, List.forall_mem_cons.mpr ⟨trivial, List.forall_mem_cons.mpr ⟨trivial, List.forall_mem_cons.mpr ⟨trivial, List.forall_mem_cons.mpr ⟨trivial, List.forall_mem_cons.mpr ⟨trivial, List.forall_mem_cons.mpr ⟨trivial, List.forall_mem_cons.mpr ⟨trivial, List.forall_mem_cons.mpr ⟨⟨ml_Fit_80, xms_JI_bitCount⟩, List.forall_mem_cons.mpr ⟨trivial, List.forall_mem_cons.mpr ⟨trivial, List.forall_mem_cons.mpr ⟨trivial, List.forall_mem_cons.mpr ⟨trivial, List.forall_mem_cons.mpr ⟨trivial, List.forall_mem_cons.mpr ⟨trivial, List.forall_mem_cons.mpr ⟨trivial, List.forall_mem_cons.mpr ⟨fl_Fit_9, List.forall_mem_cons.mpr ⟨trivial, List.forall_mem_cons.mpr ⟨trivial, List.forall_mem_cons.mpr ⟨trivial, List.forall_mem_cons.mpr ⟨trivial, List.forall_mem_cons.mpr ⟨trivial, List.forall_mem_cons.mpr ⟨trivial, List.forall_mem_cons.mpr ⟨⟨ml_Fit_85, xmv_Fit_keptWith⟩, List.forall_mem_cons.mpr ⟨⟨lw_gm 512 rfl rfl, lw_gm 328 rfl rfl, lw_gm 27 rfl rfl, lw_gm 329 rfl rfl⟩, List.forall_mem_cons.mpr ⟨trivial, List.forall_mem_cons.mpr ⟨trivial, List.forall_mem_cons.mpr ⟨trivial, List.forall_mem_cons.mpr ⟨trivial, List.forall_mem_cons.mpr ⟨fl_Fit_22, List.forall_mem_cons.mpr ⟨trivial, List.forall_mem_cons.mpr ⟨trivial, List.forall_mem_cons.mpr ⟨trivial, List.forall_mem_cons.mpr ⟨trivial, List.forall_mem_cons.mpr ⟨trivial, List.forall_mem_cons.mpr ⟨trivial, List.forall_mem_cons.mpr ⟨fl_Fit_22, List.forall_mem_cons.mpr ⟨trivial, List.forall_mem_cons.mpr ⟨trivial, List.forall_mem_cons.mpr ⟨trivial, fun _ h => absurd h List.not_mem_nil⟩⟩⟩⟩⟩⟩⟩⟩⟩⟩⟩⟩⟩⟩⟩⟩⟩⟩⟩⟩⟩⟩⟩⟩⟩⟩⟩⟩⟩⟩⟩⟩⟩⟩⟩⟩⟩⟩⟩⟩⟩⟩⟩⟩⟩⟩⟩⟩⟩⟩⟩⟩
def k_Fit_changes : xCd := [
  (0, .aload_n 0, 1, .inl (0, 0)),
  (1, .aload_n 1, 1, .inl (0, 0)),
  (2, .iload_n 2, 1, .inl (0, 0)),
  (3, .iload_n 3, 1, .inl (0, 0)),
  (4, .invokevirtual 25, 3, .inr (.inl g_Fit_compare)),
  (7, .aload_n 0, 1, .inl (0, 0)),
  (8, .invokevirtual 29, 3, .inr (.inl g_Fit_mostKept)),
  (11, .istore 4, 2, .inl (0, 0)),
  (13, .iload 4, 2, .inl (0, 0)),
  (15, .iconst (-1), 1, .inr (.inr (.inl (-1)))),
  (16, .if_icmp .ne 8, 3, .inl (24, 0)),
  (19, .bipush (-9), 2, .inr (.inr (.inl (-9)))),
  (21, .goto 15, 3, .inl (36, 0)),
  (24, .aload_n 1, 1, .inl (0, 0)),
  (25, .getfield 33, 3, .inl (2, 0)),
  (28, .aload_n 0, 1, .inl (0, 0)),
  (29, .getfield 9, 3, .inl (0, 0)),
  (32, .imul, 1, .inl (0, 0)),
  (33, .iload 4, 2, .inl (0, 0)),
  (35, .isub, 1, .inl (0, 0)),
  (36, .ireturn, 1, .inl (0, 0))]
set_option maxRecDepth 100000 in
set_option maxHeartbeats 4000000 in
theorem ok_Fit_changes : xOK g_Fit_changes k_Fit_changes := ⟨by decide +kernel, by decide +kernel, List.forall_mem_cons.mpr ⟨trivial, List.forall_mem_cons.mpr ⟨trivial, List.forall_mem_cons.mpr ⟨trivial, List.forall_mem_cons.mpr ⟨trivial, List.forall_mem_cons.mpr ⟨⟨ml_Fit_25, xmv_Fit_compare⟩, List.forall_mem_cons.mpr ⟨trivial, List.forall_mem_cons.mpr ⟨⟨ml_Fit_29, xmv_Fit_mostKept⟩, List.forall_mem_cons.mpr ⟨trivial, List.forall_mem_cons.mpr ⟨trivial, List.forall_mem_cons.mpr ⟨trivial, List.forall_mem_cons.mpr ⟨trivial, List.forall_mem_cons.mpr ⟨trivial, List.forall_mem_cons.mpr ⟨trivial, List.forall_mem_cons.mpr ⟨trivial, List.forall_mem_cons.mpr ⟨fl_Fit_33, List.forall_mem_cons.mpr ⟨trivial, List.forall_mem_cons.mpr ⟨fl_Fit_9, List.forall_mem_cons.mpr ⟨trivial, List.forall_mem_cons.mpr ⟨trivial, List.forall_mem_cons.mpr ⟨trivial, List.forall_mem_cons.mpr ⟨trivial, fun _ h => absurd h List.not_mem_nil⟩⟩⟩⟩⟩⟩⟩⟩⟩⟩⟩⟩⟩⟩⟩⟩⟩⟩⟩⟩⟩⟩
def k_Fit_firstWord : xCd := [
  (0, .iconst 0, 1, .inr (.inr (.inl (nI 0)))),
  (1, .istore_n 3, 1, .inl (0, 0)),
  (2, .iload_n 3, 1, .inl (0, 0)),
  (3, .aload_n 0, 1, .inl (0, 0)),
  (4, .getfield 9, 3, .inl (0, 0)),
  (7, .if_icmp .ge 37, 3, .inl (44, 0)),
  (10, .aload_n 0, 1, .inl (0, 0)),
  (11, .getfield 22, 3, .inl (0, 3)),
  (14, .iload_n 2, 1, .inl (0, 0)),
  (15, .iaload, 1, .inl (0, 0)),
  (16, .iconst (-1), 1, .inr (.inr (.inl (-1)))),
  (17, .if_icmp .eq 21, 3, .inl (38, 0)),
  (20, .aload_n 0, 1, .inl (0, 0)),
  (21, .iload_n 1, 1, .inl (0, 0)),
  (22, .iload_n 3, 1, .inl (0, 0)),
  (23, .iload_n 2, 1, .inl (0, 0)),
  (24, .invokevirtual 85, 3, .inr (.inl g_Fit_keptWith)),
  (27, .aload_n 0, 1, .inl (0, 0)),
  (28, .getfield 22, 3, .inl (0, 3)),
  (31, .iload_n 2, 1, .inl (0, 0)),
  (32, .iaload, 1, .inl (0, 0)),
  (33, .if_icmp .ne 5, 3, .inl (38, 0)),
  (36, .iload_n 3, 1, .inl (0, 0)),
  (37, .ireturn, 1, .inl (0, 0)),
  (38, .iinc 3 1, 3, .inr (.inr (.inl (nI 1)))),
  (41, .goto (-39), 3, .inl (2, 0)),
  (44, .iconst 0, 1, .inr (.inr (.inl (nI 0)))),
  (45, .ireturn, 1, .inl (0, 0))]
set_option maxRecDepth 100000 in
set_option maxHeartbeats 4000000 in
theorem ok_Fit_firstWord : xOK g_Fit_firstWord k_Fit_firstWord := ⟨by decide +kernel, by decide +kernel, List.forall_mem_cons.mpr ⟨trivial, List.forall_mem_cons.mpr ⟨trivial, List.forall_mem_cons.mpr ⟨trivial, List.forall_mem_cons.mpr ⟨trivial, List.forall_mem_cons.mpr ⟨fl_Fit_9, List.forall_mem_cons.mpr ⟨trivial, List.forall_mem_cons.mpr ⟨trivial, List.forall_mem_cons.mpr ⟨fl_Fit_22, List.forall_mem_cons.mpr ⟨trivial, List.forall_mem_cons.mpr ⟨trivial, List.forall_mem_cons.mpr ⟨trivial, List.forall_mem_cons.mpr ⟨trivial, List.forall_mem_cons.mpr ⟨trivial, List.forall_mem_cons.mpr ⟨trivial, List.forall_mem_cons.mpr ⟨trivial, List.forall_mem_cons.mpr ⟨trivial, List.forall_mem_cons.mpr ⟨⟨ml_Fit_85, xmv_Fit_keptWith⟩, List.forall_mem_cons.mpr ⟨trivial, List.forall_mem_cons.mpr ⟨fl_Fit_22, List.forall_mem_cons.mpr ⟨trivial, List.forall_mem_cons.mpr ⟨trivial, List.forall_mem_cons.mpr ⟨trivial, List.forall_mem_cons.mpr ⟨trivial, List.forall_mem_cons.mpr ⟨trivial, List.forall_mem_cons.mpr ⟨trivial, List.forall_mem_cons.mpr ⟨trivial, List.forall_mem_cons.mpr ⟨trivial, List.forall_mem_cons.mpr ⟨trivial, fun _ h => absurd h List.not_mem_nil⟩⟩⟩⟩⟩⟩⟩⟩⟩⟩⟩⟩⟩⟩⟩⟩⟩⟩⟩⟩⟩⟩⟩⟩⟩⟩⟩⟩⟩
def k_Fit_firstRow : xCd := [
  (0, .iconst 0, 1, .inr (.inr (.inl (nI 0)))),
  (1, .istore_n 1, 1, .inl (0, 0)),
  (2, .iconst 0, 1, .inr (.inr (.inl (nI 0)))),
  (3, .istore_n 2, 1, .inl (0, 0)),
  (4, .iconst 0, 1, .inr (.inr (.inl (nI 0)))),
  (5, .istore_n 3, 1, .inl (0, 0)),
  (6, .iload_n 3, 1, .inl (0, 0)),
  (7, .aload_n 0, 1, .inl (0, 0)),
  (8, .getfield 9, 3, .inl (0, 0)),
  (11, .if_icmp .ge 32, 3, .inl (43, 0)),
  (14, .aload_n 0, 1, .inl (0, 0)),
  (15, .iload_n 3, 1, .inl (0, 0)),
  (16, .iload_n 2, 1, .inl (0, 0)),
  (17, .invokevirtual 38, 3, .inr (.inl g_Fit_firstWord)),
  (20, .istore 4, 2, .inl (0, 0)),
  (22, .iload_n 1, 1, .inl (0, 0)),
  (23, .iload_n 3, 1, .inl (0, 0)),
  (24, .iload 4, 2, .inl (0, 0)),
  (26, .invokestatic 42, 3, .inr (.inl g_Row_with)),
  (29, .istore_n 1, 1, .inl (0, 0)),
  (30, .iload_n 2, 1, .inl (0, 0)),
  (31, .iconst 1, 1, .inr (.inr (.inl (nI 1)))),
  (32, .iload 4, 2, .inl (0, 0)),
  (34, .ishl, 1, .inl (0, 0)),
  (35, .ior, 1, .inl (0, 0)),
  (36, .istore_n 2, 1, .inl (0, 0)),
  (37, .iinc 3 1, 3, .inr (.inr (.inl (nI 1)))),
  (40, .goto (-34), 3, .inl (6, 0)),
  (43, .iload_n 1, 1, .inl (0, 0)),
  (44, .ireturn, 1, .inl (0, 0))]
set_option maxRecDepth 100000 in
set_option maxHeartbeats 4000000 in
theorem ok_Fit_firstRow : xOK g_Fit_firstRow k_Fit_firstRow := ⟨by decide +kernel, by decide +kernel, List.forall_mem_cons.mpr ⟨trivial, List.forall_mem_cons.mpr ⟨trivial, List.forall_mem_cons.mpr ⟨trivial, List.forall_mem_cons.mpr ⟨trivial, List.forall_mem_cons.mpr ⟨trivial, List.forall_mem_cons.mpr ⟨trivial, List.forall_mem_cons.mpr ⟨trivial, List.forall_mem_cons.mpr ⟨trivial, List.forall_mem_cons.mpr ⟨fl_Fit_9, List.forall_mem_cons.mpr ⟨trivial, List.forall_mem_cons.mpr ⟨trivial, List.forall_mem_cons.mpr ⟨trivial, List.forall_mem_cons.mpr ⟨trivial, List.forall_mem_cons.mpr ⟨⟨ml_Fit_38, xmv_Fit_firstWord⟩, List.forall_mem_cons.mpr ⟨trivial, List.forall_mem_cons.mpr ⟨trivial, List.forall_mem_cons.mpr ⟨trivial, List.forall_mem_cons.mpr ⟨trivial, List.forall_mem_cons.mpr ⟨⟨ml_Fit_42, xms_Row_with⟩, List.forall_mem_cons.mpr ⟨trivial, List.forall_mem_cons.mpr ⟨trivial, List.forall_mem_cons.mpr ⟨trivial, List.forall_mem_cons.mpr ⟨trivial, List.forall_mem_cons.mpr ⟨trivial, List.forall_mem_cons.mpr ⟨trivial, List.forall_mem_cons.mpr ⟨trivial, List.forall_mem_cons.mpr ⟨trivial, List.forall_mem_cons.mpr ⟨trivial, List.forall_mem_cons.mpr ⟨trivial, List.forall_mem_cons.mpr ⟨trivial, fun _ h => absurd h List.not_mem_nil⟩⟩⟩⟩⟩⟩⟩⟩⟩⟩⟩⟩⟩⟩⟩⟩⟩⟩⟩⟩⟩⟩⟩⟩⟩⟩⟩⟩⟩⟩⟩
def k_Fit_mostOfLine : xCd := [
  (0, .iconst 0, 1, .inr (.inr (.inl (nI 0)))),
  (1, .istore_n 2, 1, .inl (0, 0)),
  (2, .iconst 0, 1, .inr (.inr (.inl (nI 0)))),
  (3, .istore_n 3, 1, .inl (0, 0)),
  (4, .iload_n 3, 1, .inl (0, 0)),
  (5, .aload_n 0, 1, .inl (0, 0)),
  (6, .getfield 9, 3, .inl (0, 0)),
  (9, .if_icmp .ge 24, 3, .inl (33, 0)),
  (12, .iload_n 2, 1, .inl (0, 0)),
  (13, .aload_n 0, 1, .inl (0, 0)),
  (14, .getfield 15, 3, .inl (0, 1)),
  (17, .iload_n 1, 1, .inl (0, 0)),
  (18, .iconst 3, 1, .inr (.inr (.inl (nI 3)))),
  (19, .ishl, 1, .inl (0, 0)),
  (20, .iload_n 3, 1, .inl (0, 0)),
  (21, .ior, 1, .inl (0, 0)),
  (22, .iaload, 1, .inl (0, 0)),
  (23, .invokestatic 88, 3, .inr (.inr (.inr (.inr (0, []))))),
  (26, .istore_n 2, 1, .inl (0, 0)),
  (27, .iinc 3 1, 3, .inr (.inr (.inl (nI 1)))),
  (30, .goto (-26), 3, .inl (4, 0)),
  (33, .iload_n 2, 1, .inl (0, 0)),
  (34, .ireturn, 1, .inl (0, 0))]
set_option maxRecDepth 100000 in
set_option maxHeartbeats 4000000 in
theorem ok_Fit_mostOfLine : xOK g_Fit_mostOfLine k_Fit_mostOfLine := ⟨by decide +kernel, by decide +kernel, List.forall_mem_cons.mpr ⟨trivial, List.forall_mem_cons.mpr ⟨trivial, List.forall_mem_cons.mpr ⟨trivial, List.forall_mem_cons.mpr ⟨trivial, List.forall_mem_cons.mpr ⟨trivial, List.forall_mem_cons.mpr ⟨trivial, List.forall_mem_cons.mpr ⟨fl_Fit_9, List.forall_mem_cons.mpr ⟨trivial, List.forall_mem_cons.mpr ⟨trivial, List.forall_mem_cons.mpr ⟨trivial, List.forall_mem_cons.mpr ⟨fl_Fit_15, List.forall_mem_cons.mpr ⟨trivial, List.forall_mem_cons.mpr ⟨trivial, List.forall_mem_cons.mpr ⟨trivial, List.forall_mem_cons.mpr ⟨trivial, List.forall_mem_cons.mpr ⟨trivial, List.forall_mem_cons.mpr ⟨trivial, List.forall_mem_cons.mpr ⟨⟨lw_gm 512 rfl rfl, lw_gm 328 rfl rfl, lw_gm 27 rfl rfl, lw_gm 329 rfl rfl⟩, List.forall_mem_cons.mpr ⟨trivial, List.forall_mem_cons.mpr ⟨trivial, List.forall_mem_cons.mpr ⟨trivial, List.forall_mem_cons.mpr ⟨trivial, List.forall_mem_cons.mpr ⟨trivial, fun _ h => absurd h List.not_mem_nil⟩⟩⟩⟩⟩⟩⟩⟩⟩⟩⟩⟩⟩⟩⟩⟩⟩⟩⟩⟩⟩⟩⟩⟩
def k_Fit_mostOfWord : xCd := [
  (0, .iconst 0, 1, .inr (.inr (.inl (nI 0)))),
  (1, .istore_n 2, 1, .inl (0, 0)),
  (2, .iconst 0, 1, .inr (.inr (.inl (nI 0)))),
  (3, .istore_n 3, 1, .inl (0, 0)),
  (4, .iload_n 3, 1, .inl (0, 0)),
  (5, .aload_n 0, 1, .inl (0, 0)),
  (6, .getfield 9, 3, .inl (0, 0)),
  (9, .if_icmp .ge 24, 3, .inl (33, 0)),
  (12, .iload_n 2, 1, .inl (0, 0)),
  (13, .aload_n 0, 1, .inl (0, 0)),
  (14, .getfield 15, 3, .inl (0, 1)),
  (17, .iload_n 3, 1, .inl (0, 0)),
  (18, .iconst 3, 1, .inr (.inr (.inl (nI 3)))),
  (19, .ishl, 1, .inl (0, 0)),
  (20, .iload_n 1, 1, .inl (0, 0)),
  (21, .ior, 1, .inl (0, 0)),
  (22, .iaload, 1, .inl (0, 0)),
  (23, .invokestatic 88, 3, .inr (.inr (.inr (.inr (0, []))))),
  (26, .istore_n 2, 1, .inl (0, 0)),
  (27, .iinc 3 1, 3, .inr (.inr (.inl (nI 1)))),
  (30, .goto (-26), 3, .inl (4, 0)),
  (33, .iload_n 2, 1, .inl (0, 0)),
  (34, .ireturn, 1, .inl (0, 0))]
set_option maxRecDepth 100000 in
set_option maxHeartbeats 4000000 in
theorem ok_Fit_mostOfWord : xOK g_Fit_mostOfWord k_Fit_mostOfWord := ⟨by decide +kernel, by decide +kernel, List.forall_mem_cons.mpr ⟨trivial, List.forall_mem_cons.mpr ⟨trivial, List.forall_mem_cons.mpr ⟨trivial, List.forall_mem_cons.mpr ⟨trivial, List.forall_mem_cons.mpr ⟨trivial, List.forall_mem_cons.mpr ⟨trivial, List.forall_mem_cons.mpr ⟨fl_Fit_9, List.forall_mem_cons.mpr ⟨trivial, List.forall_mem_cons.mpr ⟨trivial, List.forall_mem_cons.mpr ⟨trivial, List.forall_mem_cons.mpr ⟨fl_Fit_15, List.forall_mem_cons.mpr ⟨trivial, List.forall_mem_cons.mpr ⟨trivial, List.forall_mem_cons.mpr ⟨trivial, List.forall_mem_cons.mpr ⟨trivial, List.forall_mem_cons.mpr ⟨trivial, List.forall_mem_cons.mpr ⟨trivial, List.forall_mem_cons.mpr ⟨⟨lw_gm 512 rfl rfl, lw_gm 328 rfl rfl, lw_gm 27 rfl rfl, lw_gm 329 rfl rfl⟩, List.forall_mem_cons.mpr ⟨trivial, List.forall_mem_cons.mpr ⟨trivial, List.forall_mem_cons.mpr ⟨trivial, List.forall_mem_cons.mpr ⟨trivial, List.forall_mem_cons.mpr ⟨trivial, fun _ h => absurd h List.not_mem_nil⟩⟩⟩⟩⟩⟩⟩⟩⟩⟩⟩⟩⟩⟩⟩⟩⟩⟩⟩⟩⟩⟩⟩⟩
def k_Fit_atMostKept : xCd := [
  (0, .iconst 0, 1, .inr (.inr (.inl (nI 0)))),
  (1, .istore_n 1, 1, .inl (0, 0)),
  (2, .iconst 0, 1, .inr (.inr (.inl (nI 0)))),
  (3, .istore_n 2, 1, .inl (0, 0)),
  (4, .iconst 0, 1, .inr (.inr (.inl (nI 0)))),
  (5, .istore_n 3, 1, .inl (0, 0)),
  (6, .iload_n 3, 1, .inl (0, 0)),
  (7, .aload_n 0, 1, .inl (0, 0)),
  (8, .getfield 9, 3, .inl (0, 0)),
  (11, .if_icmp .ge 25, 3, .inl (36, 0)),
  (14, .iload_n 1, 1, .inl (0, 0)),
  (15, .aload_n 0, 1, .inl (0, 0)),
  (16, .iload_n 3, 1, .inl (0, 0)),
  (17, .invokevirtual 93, 3, .inr (.inl g_Fit_mostOfLine)),
  (20, .iadd, 1, .inl (0, 0)),
  (21, .istore_n 1, 1, .inl (0, 0)),
  (22, .iload_n 2, 1, .inl (0, 0)),
  (23, .aload_n 0, 1, .inl (0, 0)),
  (24, .iload_n 3, 1, .inl (0, 0)),
  (25, .invokevirtual 96, 3, .inr (.inl g_Fit_mostOfWord)),
  (28, .iadd, 1, .inl (0, 0)),
  (29, .istore_n 2, 1, .inl (0, 0)),
  (30, .iinc 3 1, 3, .inr (.inr (.inl (nI 1)))),
  (33, .goto (-27), 3, .inl (6, 0)),
  (36, .iload_n 1, 1, .inl (0, 0)),
  (37, .iload_n 2, 1, .inl (0, 0)),
  (38, .invokestatic 99, 3, .inr (.inr (.inr (.inr (1, []))))),
  (41, .ireturn, 1, .inl (0, 0))]
set_option maxRecDepth 100000 in
set_option maxHeartbeats 4000000 in
theorem ok_Fit_atMostKept : xOK g_Fit_atMostKept k_Fit_atMostKept := ⟨by decide +kernel, by decide +kernel, List.forall_mem_cons.mpr ⟨trivial, List.forall_mem_cons.mpr ⟨trivial, List.forall_mem_cons.mpr ⟨trivial, List.forall_mem_cons.mpr ⟨trivial, List.forall_mem_cons.mpr ⟨trivial, List.forall_mem_cons.mpr ⟨trivial, List.forall_mem_cons.mpr ⟨trivial, List.forall_mem_cons.mpr ⟨trivial, List.forall_mem_cons.mpr ⟨fl_Fit_9, List.forall_mem_cons.mpr ⟨trivial, List.forall_mem_cons.mpr ⟨trivial, List.forall_mem_cons.mpr ⟨trivial, List.forall_mem_cons.mpr ⟨trivial, List.forall_mem_cons.mpr ⟨⟨ml_Fit_93, xmv_Fit_mostOfLine⟩, List.forall_mem_cons.mpr ⟨trivial, List.forall_mem_cons.mpr ⟨trivial, List.forall_mem_cons.mpr ⟨trivial, List.forall_mem_cons.mpr ⟨trivial, List.forall_mem_cons.mpr ⟨trivial, List.forall_mem_cons.mpr ⟨⟨ml_Fit_96, xmv_Fit_mostOfWord⟩, List.forall_mem_cons.mpr ⟨trivial, List.forall_mem_cons.mpr ⟨trivial, List.forall_mem_cons.mpr ⟨trivial, List.forall_mem_cons.mpr ⟨trivial, List.forall_mem_cons.mpr ⟨trivial, List.forall_mem_cons.mpr ⟨trivial, List.forall_mem_cons.mpr ⟨⟨lw_gm 550 rfl rfl, lw_gm 265 rfl rfl, lw_gm 27 rfl rfl, lw_gm 266 rfl rfl⟩, List.forall_mem_cons.mpr ⟨trivial, fun _ h => absurd h List.not_mem_nil⟩⟩⟩⟩⟩⟩⟩⟩⟩⟩⟩⟩⟩⟩⟩⟩⟩⟩⟩⟩⟩⟩⟩⟩⟩⟩⟩⟩⟩
def k_Fit_bestPermutation : xCd := [
  (0, .iconst (-1), 1, .inr (.inr (.inl (-1)))),
  (1, .istore_n 3, 1, .inl (0, 0)),
  (2, .iconst (-1), 1, .inr (.inr (.inl (-1)))),
  (3, .istore 4, 2, .inl (0, 0)),
  (5, .iload_n 2, 1, .inl (0, 0)),
  (6, .invokestatic 48, 3, .inr (.inl g_Perm_count)),
  (9, .istore 5, 2, .inl (0, 0)),
  (11, .iconst 0, 1, .inr (.inr (.inl (nI 0)))),
  (12, .istore 6, 2, .inl (0, 0)),
  (14, .iload 6, 2, .inl (0, 0)),
  (16, .iload 5, 2, .inl (0, 0)),
  (18, .if_icmp .ge 54, 3, .inl (72, 0)),
  (21, .iload 6, 2, .inl (0, 0)),
  (23, .iload_n 2, 1, .inl (0, 0)),
  (24, .invokestatic 53, 3, .inr (.inl g_Perm_numbered)),
  (27, .istore 7, 2, .inl (0, 0)),
  (29, .aload_n 0, 1, .inl (0, 0)),
  (30, .aload_n 1, 1, .inl (0, 0)),
  (31, .iload 7, 2, .inl (0, 0)),
  (33, .iload_n 2, 1, .inl (0, 0)),
  (34, .invokevirtual 25, 3, .inr (.inl g_Fit_compare)),
  (37, .aload_n 0, 1, .inl (0, 0)),
  (38, .invokevirtual 56, 3, .inr (.inl g_Fit_atMostKept)),
  (41, .iload 4, 2, .inl (0, 0)),
  (43, .if_icmp .le 23, 3, .inl (66, 0)),
  (46, .aload_n 0, 1, .inl (0, 0)),
  (47, .invokevirtual 29, 3, .inr (.inl g_Fit_mostKept)),
  (50, .istore 8, 2, .inl (0, 0)),
  (52, .iload 8, 2, .inl (0, 0)),
  (54, .iload 4, 2, .inl (0, 0)),
  (56, .if_icmp .le 10, 3, .inl (66, 0)),
  (59, .iload 8, 2, .inl (0, 0)),
  (61, .istore 4, 2, .inl (0, 0)),
  (63, .iload 7, 2, .inl (0, 0)),
  (65, .istore_n 3, 1, .inl (0, 0)),
  (66, .iinc 6 1, 3, .inr (.inr (.inl (nI 1)))),
  (69, .goto (-55), 3, .inl (14, 0)),
  (72, .iload_n 3, 1, .inl (0, 0)),
  (73, .ireturn, 1, .inl (0, 0))]
set_option maxRecDepth 100000 in
set_option maxHeartbeats 4000000 in
theorem ok_Fit_bestPermutation : xOK g_Fit_bestPermutation k_Fit_bestPermutation := ⟨by decide +kernel, by decide +kernel, List.forall_mem_cons.mpr ⟨trivial, List.forall_mem_cons.mpr ⟨trivial, List.forall_mem_cons.mpr ⟨trivial, List.forall_mem_cons.mpr ⟨trivial, List.forall_mem_cons.mpr ⟨trivial, List.forall_mem_cons.mpr ⟨⟨ml_Fit_48, xms_Perm_count⟩, List.forall_mem_cons.mpr ⟨trivial, List.forall_mem_cons.mpr ⟨trivial, List.forall_mem_cons.mpr ⟨trivial, List.forall_mem_cons.mpr ⟨trivial, List.forall_mem_cons.mpr ⟨trivial, List.forall_mem_cons.mpr ⟨trivial, List.forall_mem_cons.mpr ⟨trivial, List.forall_mem_cons.mpr ⟨trivial, List.forall_mem_cons.mpr ⟨⟨ml_Fit_53, xms_Perm_numbered⟩, List.forall_mem_cons.mpr ⟨trivial, List.forall_mem_cons.mpr ⟨trivial, List.forall_mem_cons.mpr ⟨trivial, List.forall_mem_cons.mpr ⟨trivial, List.forall_mem_cons.mpr ⟨trivial, List.forall_mem_cons.mpr ⟨⟨ml_Fit_25, xmv_Fit_compare⟩, List.forall_mem_cons.mpr ⟨trivial, List.forall_mem_cons.mpr ⟨⟨ml_Fit_56, xmv_Fit_atMostKept⟩, List.forall_mem_cons.mpr ⟨trivial, List.forall_mem_cons.mpr ⟨trivial, List.forall_mem_cons.mpr ⟨trivial, List.forall_mem_cons.mpr ⟨⟨ml_Fit_29, xmv_Fit_mostKept⟩, List.forall_mem_cons.mpr ⟨trivial, List.forall_mem_cons.mpr ⟨trivial, List.forall_mem_cons.mpr ⟨trivial, List.forall_mem_cons.mpr ⟨trivial, List.forall_mem_cons.mpr ⟨trivial, List.forall_mem_cons.mpr ⟨trivial, List.forall_mem_cons.mpr ⟨trivial, List.forall_mem_cons.mpr ⟨trivial, List.forall_mem_cons.mpr ⟨trivial, List.forall_mem_cons.mpr ⟨trivial, List.forall_mem_cons.mpr ⟨trivial, List.forall_mem_cons.mpr ⟨trivial, fun _ h => absurd h List.not_mem_nil⟩⟩⟩⟩⟩⟩⟩⟩⟩⟩⟩⟩⟩⟩⟩⟩⟩⟩⟩⟩⟩⟩⟩⟩⟩⟩⟩⟩⟩⟩⟩⟩⟩⟩⟩⟩⟩⟩⟩⟩
def k_Poem_init : xCd := [
  (0, .aload_n 0, 1, .inl (0, 0)),
  (1, .invokespecial 3, 3, .inl (0, 0)),
  (4, .aload_n 0, 1, .inl (0, 0)),
  (5, .iconst 0, 1, .inr (.inr (.inl (nI 0)))),
  (6, .putfield 9, 3, .inl (2, 0)),
  (9, .aload_n 0, 1, .inl (0, 0)),
  (10, .iconst 0, 1, .inr (.inr (.inl (nI 0)))),
  (11, .putfield 15, 3, .inl (2, 1)),
  (14, .aload_n 0, 1, .inl (0, 0)),
  (15, .bipush 8, 2, .inr (.inr (.inl (nI 8)))),
  (17, .newarray .int, 2, .inl (0, 0)),
  (19, .putfield 18, 3, .inl (2, 2)),
  (22, .aload_n 0, 1, .inl (0, 0)),
  (23, .bipush 8, 2, .inr (.inr (.inl (nI 8)))),
  (25, .newarray .int, 2, .inl (0, 0)),
  (27, .putfield 22, 3, .inl (2, 3)),
  (30, .aload_n 0, 1, .inl (0, 0)),
  (31, .iconst 4, 1, .inr (.inr (.inl (nI 4)))),
  (32, .newarray .int, 2, .inl (0, 0)),
  (34, .putfield 25, 3, .inl (2, 4)),
  (37, .aload_n 0, 1, .inl (0, 0)),
  (38, .iconst 4, 1, .inr (.inr (.inl (nI 4)))),
  (39, .newarray .int, 2, .inl (0, 0)),
  (41, .putfield 28, 3, .inl (2, 5)),
  (44, .return_, 1, .inl (0, 0))]
set_option maxRecDepth 100000 in
set_option maxHeartbeats 4000000 in
theorem ok_Poem_init : xOK g_Poem_init k_Poem_init := ⟨by decide +kernel, by decide +kernel, List.forall_mem_cons.mpr ⟨trivial, List.forall_mem_cons.mpr ⟨⟨lw_gm 49 rfl rfl, lw_gm 36 rfl rfl, lw_gm 37 rfl rfl⟩, List.forall_mem_cons.mpr ⟨trivial, List.forall_mem_cons.mpr ⟨trivial, List.forall_mem_cons.mpr ⟨⟨fl_Poem_9, nf_2_0 _⟩, List.forall_mem_cons.mpr ⟨trivial, List.forall_mem_cons.mpr ⟨trivial, List.forall_mem_cons.mpr ⟨⟨fl_Poem_15, nf_2_1 _⟩, List.forall_mem_cons.mpr ⟨trivial, List.forall_mem_cons.mpr ⟨trivial, List.forall_mem_cons.mpr ⟨lw_gm 75 rfl rfl, List.forall_mem_cons.mpr ⟨⟨fl_Poem_18, fun r hr _ => by cases hr; exact ⟨rfl, rfl⟩⟩, List.forall_mem_cons.mpr ⟨trivial, List.forall_mem_cons.mpr ⟨trivial, List.forall_mem_cons.mpr ⟨lw_gm 75 rfl rfl, List.forall_mem_cons.mpr ⟨⟨fl_Poem_22, fun r hr _ => by cases hr; exact ⟨rfl, rfl⟩⟩, List.forall_mem_cons.mpr ⟨trivial, List.forall_mem_cons.mpr ⟨trivial, List.forall_mem_cons.mpr ⟨lw_gm 75 rfl rfl, List.forall_mem_cons.mpr ⟨⟨fl_Poem_25, fun r hr _ => by cases hr; exact ⟨rfl, rfl⟩⟩, List.forall_mem_cons.mpr ⟨trivial, List.forall_mem_cons.mpr ⟨trivial, List.forall_mem_cons.mpr ⟨lw_gm 75 rfl rfl, List.forall_mem_cons.mpr ⟨⟨fl_Poem_28, fun r hr _ => by cases hr; exact ⟨rfl, rfl⟩⟩, List.forall_mem_cons.mpr ⟨trivial, fun _ h => absurd h List.not_mem_nil⟩⟩⟩⟩⟩⟩⟩⟩⟩⟩⟩⟩⟩⟩⟩⟩⟩⟩⟩⟩⟩⟩⟩⟩⟩⟩
def k_Poem_empty : xCd := [
  (0, .aload_n 0, 1, .inl (0, 0)),
  (1, .iconst 0, 1, .inr (.inr (.inl (nI 0)))),
  (2, .putfield 9, 3, .inl (2, 0)),
  (5, .aload_n 0, 1, .inl (0, 0)),
  (6, .iconst 0, 1, .inr (.inr (.inl (nI 0)))),
  (7, .putfield 15, 3, .inl (2, 1)),
  (10, .return_, 1, .inl (0, 0))]
set_option maxRecDepth 100000 in
set_option maxHeartbeats 4000000 in
theorem ok_Poem_empty : xOK g_Poem_empty k_Poem_empty := ⟨by decide +kernel, by decide +kernel, List.forall_mem_cons.mpr ⟨trivial, List.forall_mem_cons.mpr ⟨trivial, List.forall_mem_cons.mpr ⟨⟨fl_Poem_9, nf_2_0 _⟩, List.forall_mem_cons.mpr ⟨trivial, List.forall_mem_cons.mpr ⟨trivial, List.forall_mem_cons.mpr ⟨⟨fl_Poem_15, nf_2_1 _⟩, List.forall_mem_cons.mpr ⟨trivial, fun _ h => absurd h List.not_mem_nil⟩⟩⟩⟩⟩⟩⟩⟩
def k_Sta_startWith : xCd := [
  (0, .aload_n 0, 1, .inl (0, 0)),
  (1, .iload_n 1, 1, .inl (0, 0)),
  (2, .putfield 26, 3, .inl (5, 0)),
  (5, .aload_n 0, 1, .inl (0, 0)),
  (6, .iconst 0, 1, .inr (.inr (.inl (nI 0)))),
  (7, .putfield 30, 3, .inl (5, 1)),
  (10, .iconst 0, 1, .inr (.inr (.inl (nI 0)))),
  (11, .istore_n 2, 1, .inl (0, 0)),
  (12, .iload_n 2, 1, .inl (0, 0)),
  (13, .aload_n 0, 1, .inl (0, 0)),
  (14, .getfield 26, 3, .inl (5, 0)),
  (17, .if_icmp .ge 24, 3, .inl (41, 0)),
  (20, .aload_n 0, 1, .inl (0, 0)),
  (21, .aload_n 0, 1, .inl (0, 0)),
  (22, .getfield 30, 3, .inl (5, 1)),
  (25, .iload_n 2, 1, .inl (0, 0)),
  (26, .iload_n 2, 1, .inl (0, 0)),
  (27, .iconst 4, 1, .inr (.inr (.inl (nI 4)))),
  (28, .irem, 1, .inl (0, 0)),
  (29, .invokestatic 33, 3, .inr (.inl g_Row_with)),
  (32, .putfield 30, 3, .inl (5, 1)),
  (35, .iinc 2 1, 3, .inr (.inr (.inl (nI 1)))),
  (38, .goto (-26), 3, .inl (12, 0)),
  (41, .aload_n 0, 1, .inl (0, 0)),
  (42, .getfield 9, 3, .inl (5, 2)),
  (45, .aload_n 0, 1, .inl (0, 0)),
  (46, .getfield 26, 3, .inl (5, 0)),
  (49, .invokestatic 39, 3, .inr (.inl g_Row_ascending)),
  (52, .invokestatic 43, 3, .inr (.inl g_JA_fill)),
  (55, .aload_n 0, 1, .inl (0, 0)),
  (56, .getfield 18, 3, .inl (5, 3)),
  (59, .invokevirtual 49, 3, .inr (.inl g_Poem_empty)),
  (62, .return_, 1, .inl (0, 0))]
set_option maxRecDepth 100000 in
set_option maxHeartbeats 4000000 in
theorem ok_Sta_startWith : xOK g_Sta_startWith k_Sta_startWith := ⟨by decide +kernel, by decide +kernel, List.forall_mem_cons.mpr ⟨trivial, List.forall_mem_cons.mpr ⟨trivial, List.forall_mem_cons.mpr ⟨⟨fl_Sta_26, nf_5_0 _⟩, List.forall_mem_cons.mpr ⟨trivial, List.forall_mem_cons.mpr ⟨trivial, List.forall_mem_cons.mpr ⟨⟨fl_Sta_30, nf_5_1 _⟩, List.forall_mem_cons.mpr ⟨trivial, List.forall_mem_cons.mpr ⟨trivial, List.forall_mem_cons.mpr ⟨trivial, List.forall_mem_cons.mpr ⟨trivial, List.forall_mem_cons.mpr ⟨fl_Sta_26, List.forall_mem_cons.mpr ⟨trivial, List.forall_mem_cons.mpr ⟨trivial, List.forall_mem_cons.mpr ⟨trivial, List.forall_mem_cons.mpr ⟨fl_Sta_30, List.forall_mem_cons.mpr ⟨trivial, List.forall_mem_cons.mpr ⟨trivial, List.forall_mem_cons.mpr ⟨trivial, List.forall_mem_cons.mpr ⟨trivial, List.forall_mem_cons.mpr ⟨⟨ml_Sta_33, xms_Row_with⟩, List.forall_mem_cons.mpr ⟨⟨fl_Sta_30, nf_5_1 _⟩, List.forall_mem_cons.mpr ⟨trivial, List.forall_mem_cons.mpr ⟨trivial, List.forall_mem_cons.mpr ⟨trivial, List.forall_mem_cons.mpr ⟨fl_Sta_9, List.forall_mem_cons.mpr ⟨trivial, List.forall_mem_cons.mpr ⟨fl_Sta_26, List.forall_mem_cons.mpr ⟨⟨ml_Sta_39, xms_Row_ascending⟩, List.forall_mem_cons.mpr ⟨⟨ml_Sta_43, xms_JA_fill⟩, List.forall_mem_cons.mpr ⟨trivial, List.forall_mem_cons.mpr ⟨fl_Sta_18, List.forall_mem_cons.mpr ⟨⟨ml_Sta_49, xmv_Poem_empty⟩, List.forall_mem_cons.mpr ⟨trivial, fun _ h => absurd h List.not_mem_nil⟩⟩⟩⟩⟩⟩⟩⟩⟩⟩⟩⟩⟩⟩⟩⟩⟩⟩⟩⟩⟩⟩⟩⟩⟩⟩⟩⟩⟩⟩⟩⟩⟩⟩
def k_Sta_init : xCd := [
  (0, .aload_n 0, 1, .inl (0, 0)),
  (1, .invokespecial 3, 3, .inl (0, 0)),
  (4, .aload_n 0, 1, .inl (0, 0)),
  (5, .bipush 6, 2, .inr (.inr (.inl (nI 6)))),
  (7, .newarray .int, 2, .inl (0, 0)),
  (9, .putfield 9, 3, .inl (5, 2)),
  (12, .aload_n 0, 1, .inl (0, 0)),
  (13, .new 15, 3, .inl (2, 6)),
  (16, .dup, 1, .inl (0, 0)),
  (17, .invokespecial 17, 3, .inr (.inl g_Poem_init)),
  (20, .putfield 18, 3, .inl (5, 3)),
  (23, .aload_n 0, 1, .inl (0, 0)),
  (24, .bipush 6, 2, .inr (.inr (.inl (nI 6)))),
  (26, .invokevirtual 22, 3, .inr (.inl g_Sta_startWith)),
  (29, .return_, 1, .inl (0, 0))]
set_option maxRecDepth 100000 in
set_option maxHeartbeats 4000000 in
theorem ok_Sta_init : xOK g_Sta_init k_Sta_init := ⟨by decide +kernel, by decide +kernel, List.forall_mem_cons.mpr ⟨trivial, List.forall_mem_cons.mpr ⟨⟨lw_gm 43 rfl rfl, lw_gm 36 rfl rfl, lw_gm 37 rfl rfl⟩, List.forall_mem_cons.mpr ⟨trivial, List.forall_mem_cons.mpr ⟨trivial, List.forall_mem_cons.mpr ⟨lw_gm 75 rfl rfl, List.forall_mem_cons.mpr ⟨⟨fl_Sta_9, fun r hr _ => by cases hr; exact ⟨rfl, rfl⟩⟩, List.forall_mem_cons.mpr ⟨trivial, List.forall_mem_cons.mpr ⟨⟨_, rfl, rfl, lw_gm 44 rfl rfl, lw_gm 45 rfl rfl, lw_gm 17 rfl rfl⟩, List.forall_mem_cons.mpr ⟨trivial, List.forall_mem_cons.mpr ⟨⟨ml_Sta_17, xmi_Poem_init⟩, List.forall_mem_cons.mpr ⟨⟨fl_Sta_18, fun r hr _ => by cases hr; exact ⟨rfl, rfl⟩⟩, List.forall_mem_cons.mpr ⟨trivial, List.forall_mem_cons.mpr ⟨trivial, List.forall_mem_cons.mpr ⟨⟨ml_Sta_22, xmv_Sta_startWith⟩, List.forall_mem_cons.mpr ⟨trivial, fun _ h => absurd h List.not_mem_nil⟩⟩⟩⟩⟩⟩⟩⟩⟩⟩⟩⟩⟩⟩⟩⟩
def k_Hist_init : xCd := [
  (0, .aload_n 0, 1, .inl (0, 0)),
  (1, .invokespecial 3, 3, .inl (0, 0)),
  (4, .aload_n 0, 1, .inl (0, 0)),
  (5, .iconst 0, 1, .inr (.inr (.inl (nI 0)))),
  (6, .putfield 9, 3, .inl (1, 0)),
  (9, .aload_n 0, 1, .inl (0, 0)),
  (10, .iconst 0, 1, .inr (.inr (.inl (nI 0)))),
  (11, .putfield 15, 3, .inl (1, 1)),
  (14, .aload_n 0, 1, .inl (0, 0)),
  (15, .bipush 8, 2, .inr (.inr (.inl (nI 8)))),
  (17, .anewarray 18, 3, .inl (0, 0)),
  (20, .putfield 20, 3, .inl (1, 2)),
  (23, .iconst 0, 1, .inr (.inr (.inl (nI 0)))),
  (24, .istore_n 1, 1, .inl (0, 0)),
  (25, .iload_n 1, 1, .inl (0, 0)),
  (26, .bipush 8, 2, .inr (.inr (.inl (nI 8)))),
  (28, .if_icmp .ge 22, 3, .inl (50, 0)),
  (31, .aload_n 0, 1, .inl (0, 0)),
  (32, .getfield 20, 3, .inl (1, 2)),
  (35, .iload_n 1, 1, .inl (0, 0)),
  (36, .new 18, 3, .inl (5, 4)),
  (39, .dup, 1, .inl (0, 0)),
  (40, .invokespecial 24, 3, .inr (.inl g_Sta_init)),
  (43, .aastore, 1, .inl (0, 0)),
  (44, .iinc 1 1, 3, .inr (.inr (.inl (nI 1)))),
  (47, .goto (-22), 3, .inl (25, 0)),
  (50, .return_, 1, .inl (0, 0))]
set_option maxRecDepth 100000 in
set_option maxHeartbeats 4000000 in
theorem ok_Hist_init : xOK g_Hist_init k_Hist_init := ⟨by decide +kernel, by decide +kernel, List.forall_mem_cons.mpr ⟨trivial, List.forall_mem_cons.mpr ⟨⟨lw_gm 117 rfl rfl, lw_gm 36 rfl rfl, lw_gm 37 rfl rfl⟩, List.forall_mem_cons.mpr ⟨trivial, List.forall_mem_cons.mpr ⟨trivial, List.forall_mem_cons.mpr ⟨⟨fl_Hist_9, nf_1_0 _⟩, List.forall_mem_cons.mpr ⟨trivial, List.forall_mem_cons.mpr ⟨trivial, List.forall_mem_cons.mpr ⟨⟨fl_Hist_15, nf_1_1 _⟩, List.forall_mem_cons.mpr ⟨trivial, List.forall_mem_cons.mpr ⟨trivial, List.forall_mem_cons.mpr ⟨lw_gm 118 rfl rfl, List.forall_mem_cons.mpr ⟨⟨fl_Hist_20, fun r hr _ => by cases hr; exact ⟨rfl, rfl⟩⟩, List.forall_mem_cons.mpr ⟨trivial, List.forall_mem_cons.mpr ⟨trivial, List.forall_mem_cons.mpr ⟨trivial, List.forall_mem_cons.mpr ⟨trivial, List.forall_mem_cons.mpr ⟨trivial, List.forall_mem_cons.mpr ⟨trivial, List.forall_mem_cons.mpr ⟨fl_Hist_20, List.forall_mem_cons.mpr ⟨trivial, List.forall_mem_cons.mpr ⟨⟨_, rfl, rfl, lw_gm 118 rfl rfl, lw_gm 39 rfl rfl, lw_gm 16 rfl rfl⟩, List.forall_mem_cons.mpr ⟨trivial, List.forall_mem_cons.mpr ⟨⟨ml_Hist_24, xmi_Sta_init⟩, List.forall_mem_cons.mpr ⟨trivial, List.forall_mem_cons.mpr ⟨trivial, List.forall_mem_cons.mpr ⟨trivial, List.forall_mem_cons.mpr ⟨trivial, fun _ h => absurd h List.not_mem_nil⟩⟩⟩⟩⟩⟩⟩⟩⟩⟩⟩⟩⟩⟩⟩⟩⟩⟩⟩⟩⟩⟩⟩⟩⟩⟩⟩⟩
def k_Poem_copyFrom : xCd := [
  (0, .aload_n 0, 1, .inl (0, 0)),
  (1, .aload_n 1, 1, .inl (0, 0)),
  (2, .getfield 9, 3, .inl (2, 0)),
  (5, .putfield 9, 3, .inl (2, 0)),
  (8, .aload_n 0, 1, .inl (0, 0)),
  (9, .aload_n 1, 1, .inl (0, 0)),
  (10, .getfield 15, 3, .inl (2, 1)),
  (13, .putfield 15, 3, .inl (2, 1)),
  (16, .aload_n 1, 1, .inl (0, 0)),
  (17, .getfield 18, 3, .inl (2, 2)),
  (20, .iconst 0, 1, .inr (.inr (.inl (nI 0)))),
  (21, .aload_n 0, 1, .inl (0, 0)),
  (22, .getfield 18, 3, .inl (2, 2)),
  (25, .iconst 0, 1, .inr (.inr (.inl (nI 0)))),
  (26, .bipush 8, 2, .inr (.inr (.inl (nI 8)))),
  (28, .invokestatic 31, 3, .inl (0, 0)),
  (31, .aload_n 1, 1, .inl (0, 0)),
  (32, .getfield 22, 3, .inl (2, 3)),
  (35, .iconst 0, 1, .inr (.inr (.inl (nI 0)))),
  (36, .aload_n 0, 1, .inl (0, 0)),
  (37, .getfield 22, 3, .inl (2, 3)),
  (40, .iconst 0, 1, .inr (.inr (.inl (nI 0)))),
  (41, .bipush 8, 2, .inr (.inr (.inl (nI 8)))),
  (43, .invokestatic 31, 3, .inl (0, 0)),
  (46, .aload_n 1, 1, .inl (0, 0)),
  (47, .getfield 25, 3, .inl (2, 4)),
  (50, .iconst 0, 1, .inr (.inr (.inl (nI 0)))),
  (51, .aload_n 0, 1, .inl (0, 0)),
  (52, .getfield 25, 3, .inl (2, 4)),
  (55, .iconst 0, 1, .inr (.inr (.inl (nI 0)))),
  (56, .iconst 4, 1, .inr (.inr (.inl (nI 4)))),
  (57, .invokestatic 31, 3, .inl (0, 0)),
  (60, .aload_n 1, 1, .inl (0, 0)),
  (61, .getfield 28, 3, .inl (2, 5)),
  (64, .iconst 0, 1, .inr (.inr (.inl (nI 0)))),
  (65, .aload_n 0, 1, .inl (0, 0)),
  (66, .getfield 28, 3, .inl (2, 5)),
  (69, .iconst 0, 1, .inr (.inr (.inl (nI 0)))),
  (70, .iconst 4, 1, .inr (.inr (.inl (nI 4)))),
  (71, .invokestatic 31, 3, .inl (0, 0)),
  (74, .return_, 1, .inl (0, 0))]
set_option maxRecDepth 100000 in
set_option maxHeartbeats 4000000 in
theorem ok_Poem_copyFrom : xOK g_Poem_copyFrom k_Poem_copyFrom := ⟨by decide +kernel, by decide +kernel, List.forall_mem_cons.mpr ⟨trivial, List.forall_mem_cons.mpr ⟨trivial, List.forall_mem_cons.mpr ⟨fl_Poem_9, List.forall_mem_cons.mpr ⟨⟨fl_Poem_9, nf_2_0 _⟩, List.forall_mem_cons.mpr ⟨trivial, List.forall_mem_cons.mpr ⟨trivial, List.forall_mem_cons.mpr ⟨fl_Poem_15, List.forall_mem_cons.mpr ⟨⟨fl_Poem_15, nf_2_1 _⟩, List.forall_mem_cons.mpr ⟨trivial, List.forall_mem_cons.mpr ⟨fl_Poem_18, List.forall_mem_cons.mpr ⟨trivial, List.forall_mem_cons.mpr ⟨trivial, List.forall_mem_cons.mpr ⟨fl_Poem_18, List.forall_mem_cons.mpr ⟨trivial, List.forall_mem_cons.mpr ⟨trivial, List.forall_mem_cons.mpr ⟨⟨lw_gm 263 rfl rfl, lw_gm 258 rfl rfl, lw_gm 257 rfl rfl, lw_gm 26 rfl rfl⟩, List.forall_mem_cons.mpr ⟨trivial, List.forall_mem_cons.mpr ⟨fl_Poem_22, List.forall_mem_cons.mpr ⟨trivial, List.forall_mem_cons.mpr ⟨trivial, List.forall_mem_cons.mpr ⟨fl_Poem_22, List.forall_mem_cons.mpr ⟨trivial, List.forall_mem_cons.mpr ⟨trivial, List.forall_mem_cons.mpr ⟨⟨lw_gm 263 rfl rfl, lw_gm 258 rfl rfl, lw_gm 257 rfl rfl, lw_gm 26 rfl rfl⟩, List.forall_mem_cons.mpr ⟨trivial, List.forall_mem_cons.mpr ⟨fl_Poem_25, List.forall_mem_cons.mpr ⟨trivial, List.forall_mem_cons.mpr ⟨trivial, List.forall_mem_cons.mpr ⟨fl_Poem_25, List.forall_mem_cons.mpr ⟨trivial, List.forall_mem_cons.mpr ⟨trivial, List.forall_mem_cons.mpr ⟨⟨lw_gm 263 rfl rfl, lw_gm 258 rfl rfl, lw_gm 257 rfl rfl, lw_gm 26 rfl rfl⟩, List.forall_mem_cons.mpr ⟨trivial, List.forall_mem_cons.mpr ⟨fl_Poem_28, List.forall_mem_cons.mpr ⟨trivial, List.forall_mem_cons.mpr ⟨trivial, List.forall_mem_cons.mpr ⟨fl_Poem_28, List.forall_mem_cons.mpr ⟨trivial, List.forall_mem_cons.mpr ⟨trivial, List.forall_mem_cons.mpr ⟨⟨lw_gm 263 rfl rfl, lw_gm 258 rfl rfl, lw_gm 257 rfl rfl, lw_gm 26 rfl rfl⟩, List.forall_mem_cons.mpr ⟨trivial, fun _ h => absurd h List.not_mem_nil⟩⟩⟩⟩⟩⟩⟩⟩⟩⟩⟩⟩⟩⟩⟩⟩⟩⟩⟩⟩⟩⟩⟩⟩⟩⟩⟩⟩⟩⟩⟩⟩⟩⟩⟩⟩⟩⟩⟩⟩⟩⟩
def k_Sta_copyFrom : xCd := [
  (0, .aload_n 0, 1, .inl (0, 0)),
  (1, .aload_n 1, 1, .inl (0, 0)),
  (2, .getfield 26, 3, .inl (5, 0)),
  (5, .putfield 26, 3, .inl (5, 0)),
  (8, .aload_n 0, 1, .inl (0, 0)),
  (9, .aload_n 1, 1, .inl (0, 0)),
  (10, .getfield 30, 3, .inl (5, 1)),
  (13, .putfield 30, 3, .inl (5, 1)),
  (16, .aload_n 1, 1, .inl (0, 0)),
  (17, .getfield 9, 3, .inl (5, 2)),
  (20, .iconst 0, 1, .inr (.inr (.inl (nI 0)))),
  (21, .aload_n 0, 1, .inl (0, 0)),
  (22, .getfield 9, 3, .inl (5, 2)),
  (25, .iconst 0, 1, .inr (.inr (.inl (nI 0)))),
  (26, .bipush 6, 2, .inr (.inr (.inl (nI 6)))),
  (28, .invokestatic 52, 3, .inl (0, 0)),
  (31, .aload_n 0, 1, .inl (0, 0)),
  (32, .getfield 18, 3, .inl (5, 3)),
  (35, .aload_n 1, 1, .inl (0, 0)),
  (36, .getfield 18, 3, .inl (5, 3)),
  (39, .invokevirtual 58, 3, .inr (.inl g_Poem_copyFrom)),
  (42, .return_, 1, .inl (0, 0))]
set_option maxRecDepth 100000 in
set_option maxHeartbeats 4000000 in
theorem ok_Sta_copyFrom : xOK g_Sta_copyFrom k_Sta_copyFrom := ⟨by decide +kernel, by decide +kernel, List.forall_mem_cons.mpr ⟨trivial, List.forall_mem_cons.mpr ⟨trivial, List.forall_mem_cons.mpr ⟨fl_Sta_26, List.forall_mem_cons.mpr ⟨⟨fl_Sta_26, nf_5_0 _⟩, List.forall_mem_cons.mpr ⟨trivial, List.forall_mem_cons.mpr ⟨trivial, List.forall_mem_cons.mpr ⟨fl_Sta_30, List.forall_mem_cons.mpr ⟨⟨fl_Sta_30, nf_5_1 _⟩, List.forall_mem_cons.mpr ⟨trivial, List.forall_mem_cons.mpr ⟨fl_Sta_9, List.forall_mem_cons.mpr ⟨trivial, List.forall_mem_cons.mpr ⟨trivial, List.forall_mem_cons.mpr ⟨fl_Sta_9, List.forall_mem_cons.mpr ⟨trivial, List.forall_mem_cons.mpr ⟨trivial, List.forall_mem_cons.mpr ⟨⟨lw_gm 256 rfl rfl, lw_gm 258 rfl rfl, lw_gm 257 rfl rfl, lw_gm 26 rfl rfl⟩, List.forall_mem_cons.mpr ⟨trivial, List.forall_mem_cons.mpr ⟨fl_Sta_18, List.forall_mem_cons.mpr ⟨trivial, List.forall_mem_cons.mpr ⟨fl_Sta_18, List.forall_mem_cons.mpr ⟨⟨ml_Sta_58, xmv_Poem_copyFrom⟩, List.forall_mem_cons.mpr ⟨trivial, fun _ h => absurd h List.not_mem_nil⟩⟩⟩⟩⟩⟩⟩⟩⟩⟩⟩⟩⟩⟩⟩⟩⟩⟩⟩⟩⟩⟩⟩
def k_Hist_remember : xCd := [
  (0, .aload_n 0, 1, .inl (0, 0)),
  (1, .getfield 20, 3, .inl (1, 2)),
  (4, .aload_n 0, 1, .inl (0, 0)),
  (5, .getfield 15, 3, .inl (1, 1)),
  (8, .aaload, 1, .inl (0, 0)),
  (9, .aload_n 1, 1, .inl (0, 0)),
  (10, .invokevirtual 25, 3, .inr (.inl g_Sta_copyFrom)),
  (13, .aload_n 0, 1, .inl (0, 0)),
  (14, .aload_n 0, 1, .inl (0, 0)),
  (15, .getfield 15, 3, .inl (1, 1)),
  (18, .iconst 1, 1, .inr (.inr (.inl (nI 1)))),
  (19, .iadd, 1, .inl (0, 0)),
  (20, .bipush 8, 2, .inr (.inr (.inl (nI 8)))),
  (22, .irem, 1, .inl (0, 0)),
  (23, .putfield 15, 3, .inl (1, 1)),
  (26, .aload_n 0, 1, .inl (0, 0)),
  (27, .aload_n 0, 1, .inl (0, 0)),
  (28, .getfield 9, 3, .inl (1, 0)),
  (31, .iconst 1, 1, .inr (.inr (.inl (nI 1)))),
  (32, .iadd, 1, .inl (0, 0)),
  (33, .bipush 8, 2, .inr (.inr (.inl (nI 8)))),
  (35, .invokestatic 29, 3, .inr (.inr (.inr (.inr (1, []))))),
  (38, .putfield 9, 3, .inl (1, 0)),
  (41, .return_, 1, .inl (0, 0))]
set_option maxRecDepth 100000 in
set_option maxHeartbeats 4000000 in
theorem ok_Hist_remember : xOK g_Hist_remember k_Hist_remember := ⟨by decide +kernel, by decide +kernel, List.forall_mem_cons.mpr ⟨trivial, List.forall_mem_cons.mpr ⟨fl_Hist_20, List.forall_mem_cons.mpr ⟨trivial, List.forall_mem_cons.mpr ⟨fl_Hist_15, List.forall_mem_cons.mpr ⟨trivial, List.forall_mem_cons.mpr ⟨trivial, List.forall_mem_cons.mpr ⟨⟨ml_Hist_25, xmv_Sta_copyFrom⟩, List.forall_mem_cons.mpr ⟨trivial, List.forall_mem_cons.mpr ⟨trivial, List.forall_mem_cons.mpr ⟨fl_Hist_15, List.forall_mem_cons.mpr ⟨trivial, List.forall_mem_cons.mpr ⟨trivial, List.forall_mem_cons.mpr ⟨trivial, List.forall_mem_cons.mpr ⟨trivial, List.forall_mem_cons.mpr ⟨⟨fl_Hist_15, nf_1_1 _⟩, List.forall_mem_cons.mpr ⟨trivial, List.forall_mem_cons.mpr ⟨trivial, List.forall_mem_cons.mpr ⟨fl_Hist_9, List.forall_mem_cons.mpr ⟨trivial, List.forall_mem_cons.mpr ⟨trivial, List.forall_mem_cons.mpr ⟨trivial, List.forall_mem_cons.mpr ⟨⟨lw_gm 264 rfl rfl, lw_gm 265 rfl rfl, lw_gm 27 rfl rfl, lw_gm 266 rfl rfl⟩, List.forall_mem_cons.mpr ⟨⟨fl_Hist_9, nf_1_0 _⟩, List.forall_mem_cons.mpr ⟨trivial, fun _ h => absurd h List.not_mem_nil⟩⟩⟩⟩⟩⟩⟩⟩⟩⟩⟩⟩⟩⟩⟩⟩⟩⟩⟩⟩⟩⟩⟩⟩⟩
def k_Hist_restore : xCd := [
  (0, .aload_n 0, 1, .inl (0, 0)),
  (1, .getfield 9, 3, .inl (1, 0)),
  (4, .ifCond .le 42, 3, .inl (46, 0)),
  (7, .aload_n 0, 1, .inl (0, 0)),
  (8, .aload_n 0, 1, .inl (0, 0)),
  (9, .getfield 15, 3, .inl (1, 1)),
  (12, .bipush 8, 2, .inr (.inr (.inl (nI 8)))),
  (14, .iadd, 1, .inl (0, 0)),
  (15, .iconst 1, 1, .inr (.inr (.inl (nI 1)))),
  (16, .isub, 1, .inl (0, 0)),
  (17, .bipush 8, 2, .inr (.inr (.inl (nI 8)))),
  (19, .irem, 1, .inl (0, 0)),
  (20, .putfield 15, 3, .inl (1, 1)),
  (23, .aload_n 0, 1, .inl (0, 0)),
  (24, .dup, 1, .inl (0, 0)),
  (25, .getfield 9, 3, .inl (1, 0)),
  (28, .iconst 1, 1, .inr (.inr (.inl (nI 1)))),
  (29, .isub, 1, .inl (0, 0)),
  (30, .putfield 9, 3, .inl (1, 0)),
  (33, .aload_n 1, 1, .inl (0, 0)),
  (34, .aload_n 0, 1, .inl (0, 0)),
  (35, .getfield 20, 3, .inl (1, 2)),
  (38, .aload_n 0, 1, .inl (0, 0)),
  (39, .getfield 15, 3, .inl (1, 1)),
  (42, .aaload, 1, .inl (0, 0)),
  (43, .invokevirtual 25, 3, .inr (.inl g_Sta_copyFrom)),
  (46, .return_, 1, .inl (0, 0))]
set_option maxRecDepth 100000 in
set_option maxHeartbeats 4000000 in
theorem ok_Hist_restore : xOK g_Hist_restore k_Hist_restore := ⟨by decide +kernel, by decide +kernel, List.forall_mem_cons.mpr ⟨trivial, List.forall_mem_cons.mpr ⟨fl_Hist_9, List.forall_mem_cons.mpr ⟨trivial, List.forall_mem_cons.mpr ⟨trivial, List.forall_mem_cons.mpr ⟨trivial, List.forall_mem_cons.mpr ⟨fl_Hist_15, List.forall_mem_cons.mpr ⟨trivial, List.forall_mem_cons.mpr ⟨trivial, List.forall_mem_cons.mpr ⟨trivial, List.forall_mem_cons.mpr ⟨trivial, List.forall_mem_cons.mpr ⟨trivial, List.forall_mem_cons.mpr ⟨trivial, List.forall_mem_cons.mpr ⟨⟨fl_Hist_15, nf_1_1 _⟩, List.forall_mem_cons.mpr ⟨trivial, List.forall_mem_cons.mpr ⟨trivial, List.forall_mem_cons.mpr ⟨fl_Hist_9, List.forall_mem_cons.mpr ⟨trivial, List.forall_mem_cons.mpr ⟨trivial, List.forall_mem_cons.mpr ⟨⟨fl_Hist_9, nf_1_0 _⟩, List.forall_mem_cons.mpr ⟨trivial, List.forall_mem_cons.mpr ⟨trivial, List.forall_mem_cons.mpr ⟨fl_Hist_20, List.forall_mem_cons.mpr ⟨trivial, List.forall_mem_cons.mpr ⟨fl_Hist_15, List.forall_mem_cons.mpr ⟨trivial, List.forall_mem_cons.mpr ⟨⟨ml_Hist_25, xmv_Sta_copyFrom⟩, List.forall_mem_cons.mpr ⟨trivial, fun _ h => absurd h List.not_mem_nil⟩⟩⟩⟩⟩⟩⟩⟩⟩⟩⟩⟩⟩⟩⟩⟩⟩⟩⟩⟩⟩⟩⟩⟩⟩⟩⟩⟩
def k_Poem_append : xCd := [
  (0, .aload_n 0, 1, .inl (0, 0)),
  (1, .getfield 9, 3, .inl (2, 0)),
  (4, .bipush 8, 2, .inr (.inr (.inl (nI 8)))),
  (6, .if_icmp .ge 33, 3, .inl (39, 0)),
  (9, .aload_n 0, 1, .inl (0, 0)),
  (10, .getfield 18, 3, .inl (2, 2)),
  (13, .aload_n 0, 1, .inl (0, 0)),
  (14, .getfield 9, 3, .inl (2, 0)),
  (17, .iload_n 1, 1, .inl (0, 0)),
  (18, .iastore, 1, .inl (0, 0)),
  (19, .aload_n 0, 1, .inl (0, 0)),
  (20, .getfield 22, 3, .inl (2, 3)),
  (23, .aload_n 0, 1, .inl (0, 0)),
  (24, .getfield 9, 3, .inl (2, 0)),
  (27, .iconst 0, 1, .inr (.inr (.inl (nI 0)))),
  (28, .iastore, 1, .inl (0, 0)),
  (29, .aload_n 0, 1, .inl (0, 0)),
  (30, .dup, 1, .inl (0, 0)),
  (31, .getfield 9, 3, .inl (2, 0)),
  (34, .iconst 1, 1, .inr (.inr (.inl (nI 1)))),
  (35, .iadd, 1, .inl (0, 0)),
  (36, .putfield 9, 3, .inl (2, 0)),
  (39, .return_, 1, .inl (0, 0))]
set_option maxRecDepth 100000 in
set_option maxHeartbeats 4000000 in
theorem ok_Poem_append : xOK g_Poem_append k_Poem_append := ⟨by decide +kernel, by decide +kernel, List.forall_mem_cons.mpr ⟨trivial, List.forall_mem_cons.mpr ⟨fl_Poem_9, List.forall_mem_cons.mpr ⟨trivial, List.forall_mem_cons.mpr ⟨trivial, List.forall_mem_cons.mpr ⟨trivial, List.forall_mem_cons.mpr ⟨fl_Poem_18, List.forall_mem_cons.mpr ⟨trivial, List.forall_mem_cons.mpr ⟨fl_Poem_9, List.forall_mem_cons.mpr ⟨trivial, List.forall_mem_cons.mpr ⟨trivial, List.forall_mem_cons.mpr ⟨trivial, List.forall_mem_cons.mpr ⟨fl_Poem_22, List.forall_mem_cons.mpr ⟨trivial, List.forall_mem_cons.mpr ⟨fl_Poem_9, List.forall_mem_cons.mpr ⟨trivial, List.forall_mem_cons.mpr ⟨trivial, List.forall_mem_cons.mpr ⟨trivial, List.forall_mem_cons.mpr ⟨trivial, List.forall_mem_cons.mpr ⟨fl_Poem_9, List.forall_mem_cons.mpr ⟨trivial, List.forall_mem_cons.mpr ⟨trivial, List.forall_mem_cons.mpr ⟨⟨fl_Poem_9, nf_2_0 _⟩, List.forall_mem_cons.mpr ⟨trivial, fun _ h => absurd h List.not_mem_nil⟩⟩⟩⟩⟩⟩⟩⟩⟩⟩⟩⟩⟩⟩⟩⟩⟩⟩⟩⟩⟩⟩⟩⟩
def k_Poem_properStanzas : xCd := [
  (0, .iconst 0, 1, .inr (.inr (.inl (nI 0)))),
  (1, .istore_n 2, 1, .inl (0, 0)),
  (2, .iconst 0, 1, .inr (.inr (.inl (nI 0)))),
  (3, .istore_n 3, 1, .inl (0, 0)),
  (4, .iload_n 3, 1, .inl (0, 0)),
  (5, .aload_n 0, 1, .inl (0, 0)),
  (6, .getfield 9, 3, .inl (2, 0)),
  (9, .if_icmp .ge 25, 3, .inl (34, 0)),
  (12, .aload_n 0, 1, .inl (0, 0)),
  (13, .getfield 18, 3, .inl (2, 2)),
  (16, .iload_n 3, 1, .inl (0, 0)),
  (17, .iaload, 1, .inl (0, 0)),
  (18, .iload_n 1, 1, .inl (0, 0)),
  (19, .invokestatic 37, 3, .inr (.inl g_Row_hasEach)),
  (22, .ifCond .eq 6, 3, .inl (28, 0)),
  (25, .iinc 2 1, 3, .inr (.inr (.inl (nI 1)))),
  (28, .iinc 3 1, 3, .inr (.inr (.inl (nI 1)))),
  (31, .goto (-27), 3, .inl (4, 0)),
  (34, .iload_n 2, 1, .inl (0, 0)),
  (35, .ireturn, 1, .inl (0, 0))]
set_option maxRecDepth 100000 in
set_option maxHeartbeats 4000000 in
theorem ok_Poem_properStanzas : xOK g_Poem_properStanzas k_Poem_properStanzas := ⟨by decide +kernel, by decide +kernel, List.forall_mem_cons.mpr ⟨trivial, List.forall_mem_cons.mpr ⟨trivial, List.forall_mem_cons.mpr ⟨trivial, List.forall_mem_cons.mpr ⟨trivial, List.forall_mem_cons.mpr ⟨trivial, List.forall_mem_cons.mpr ⟨trivial, List.forall_mem_cons.mpr ⟨fl_Poem_9, List.forall_mem_cons.mpr ⟨trivial, List.forall_mem_cons.mpr ⟨trivial, List.forall_mem_cons.mpr ⟨fl_Poem_18, List.forall_mem_cons.mpr ⟨trivial, List.forall_mem_cons.mpr ⟨trivial, List.forall_mem_cons.mpr ⟨trivial, List.forall_mem_cons.mpr ⟨⟨ml_Poem_37, xms_Row_hasEach⟩, List.forall_mem_cons.mpr ⟨trivial, List.forall_mem_cons.mpr ⟨trivial, List.forall_mem_cons.mpr ⟨trivial, List.forall_mem_cons.mpr ⟨trivial, List.forall_mem_cons.mpr ⟨trivial, List.forall_mem_cons.mpr ⟨trivial, fun _ h => absurd h List.not_mem_nil⟩⟩⟩⟩⟩⟩⟩⟩⟩⟩⟩⟩⟩⟩⟩⟩⟩⟩⟩⟩⟩
def k_Poem_lockedPlaces : xCd := [
  (0, .iconst 0, 1, .inr (.inr (.inl (nI 0)))),
  (1, .istore_n 1, 1, .inl (0, 0)),
  (2, .iconst 0, 1, .inr (.inr (.inl (nI 0)))),
  (3, .istore_n 2, 1, .inl (0, 0)),
  (4, .iload_n 2, 1, .inl (0, 0)),
  (5, .aload_n 0, 1, .inl (0, 0)),
  (6, .getfield 9, 3, .inl (2, 0)),
  (9, .if_icmp .ge 21, 3, .inl (30, 0)),
  (12, .iload_n 1, 1, .inl (0, 0)),
  (13, .aload_n 0, 1, .inl (0, 0)),
  (14, .getfield 22, 3, .inl (2, 3)),
  (17, .iload_n 2, 1, .inl (0, 0)),
  (18, .iaload, 1, .inl (0, 0)),
  (19, .invokestatic 43, 3, .inr (.inl g_JI_bitCount)),
  (22, .iadd, 1, .inl (0, 0)),
  (23, .istore_n 1, 1, .inl (0, 0)),
  (24, .iinc 2 1, 3, .inr (.inr (.inl (nI 1)))),
  (27, .goto (-23), 3, .inl (4, 0)),
  (30, .iload_n 1, 1, .inl (0, 0)),
  (31, .ireturn, 1, .inl (0, 0))]
set_option maxRecDepth 100000 in
set_option maxHeartbeats 4000000 in
theorem ok_Poem_lockedPlaces : xOK g_Poem_lockedPlaces k_Poem_lockedPlaces := ⟨by decide +kernel, by decide +kernel, List.forall_mem_cons.mpr ⟨trivial, List.forall_mem_cons.mpr ⟨trivial, List.forall_mem_cons.mpr ⟨trivial, List.forall_mem_cons.mpr ⟨trivial, List.forall_mem_cons.mpr ⟨trivial, List.forall_mem_cons.mpr ⟨trivial, List.forall_mem_cons.mpr ⟨fl_Poem_9, List.forall_mem_cons.mpr ⟨trivial, List.forall_mem_cons.mpr ⟨trivial, List.forall_mem_cons.mpr ⟨trivial, List.forall_mem_cons.mpr ⟨fl_Poem_22, List.forall_mem_cons.mpr ⟨trivial, List.forall_mem_cons.mpr ⟨trivial, List.forall_mem_cons.mpr ⟨⟨ml_Poem_43, xms_JI_bitCount⟩, List.forall_mem_cons.mpr ⟨trivial, List.forall_mem_cons.mpr ⟨trivial, List.forall_mem_cons.mpr ⟨trivial, List.forall_mem_cons.mpr ⟨trivial, List.forall_mem_cons.mpr ⟨trivial, List.forall_mem_cons.mpr ⟨trivial, fun _ h => absurd h List.not_mem_nil⟩⟩⟩⟩⟩⟩⟩⟩⟩⟩⟩⟩⟩⟩⟩⟩⟩⟩⟩⟩⟩
def k_Poem_turnBehind : xCd := [
  (0, .iload_n 1, 1, .inl (0, 0)),
  (1, .iconst 1, 1, .inr (.inr (.inl (nI 1)))),
  (2, .iadd, 1, .inl (0, 0)),
  (3, .aload_n 0, 1, .inl (0, 0)),
  (4, .getfield 9, 3, .inl (2, 0)),
  (7, .if_icmp .ge 31, 3, .inl (38, 0)),
  (10, .aload_n 0, 1, .inl (0, 0)),
  (11, .getfield 18, 3, .inl (2, 2)),
  (14, .iload_n 1, 1, .inl (0, 0)),
  (15, .iaload, 1, .inl (0, 0)),
  (16, .iload_n 2, 1, .inl (0, 0)),
  (17, .invokestatic 37, 3, .inr (.inl g_Row_hasEach)),
  (20, .ifCond .eq 18, 3, .inl (38, 0)),
  (23, .aload_n 0, 1, .inl (0, 0)),
  (24, .getfield 18, 3, .inl (2, 2)),
  (27, .iload_n 1, 1, .inl (0, 0)),
  (28, .iconst 1, 1, .inr (.inr (.inl (nI 1)))),
  (29, .iadd, 1, .inl (0, 0)),
  (30, .iaload, 1, .inl (0, 0)),
  (31, .iload_n 2, 1, .inl (0, 0)),
  (32, .invokestatic 37, 3, .inr (.inl g_Row_hasEach)),
  (35, .ifCond .ne 5, 3, .inl (40, 0)),
  (38, .iconst (-1), 1, .inr (.inr (.inl (-1)))),
  (39, .ireturn, 1, .inl (0, 0)),
  (40, .aload_n 0, 1, .inl (0, 0)),
  (41, .getfield 18, 3, .inl (2, 2)),
  (44, .iload_n 1, 1, .inl (0, 0)),
  (45, .iaload, 1, .inl (0, 0)),
  (46, .iload_n 2, 1, .inl (0, 0)),
  (47, .invokestatic 49, 3, .inr (.inl g_Perm_inverse)),
  (50, .aload_n 0, 1, .inl (0, 0)),
  (51, .getfield 18, 3, .inl (2, 2)),
  (54, .iload_n 1, 1, .inl (0, 0)),
  (55, .iconst 1, 1, .inr (.inr (.inl (nI 1)))),
  (56, .iadd, 1, .inl (0, 0)),
  (57, .iaload, 1, .inl (0, 0)),
  (58, .iload_n 2, 1, .inl (0, 0)),
  (59, .invokestatic 55, 3, .inr (.inl g_Row_turned)),
  (62, .ireturn, 1, .inl (0, 0))]
set_option maxRecDepth 100000 in
set_option maxHeartbeats 4000000 in
theorem ok_Poem_turnBehind : xOK g_Poem_turnBehind k_Poem_turnBehind := ⟨by decide +kernel, by decide +kernel, List.forall_mem_cons.mpr ⟨trivial, List.forall_mem_cons.mpr ⟨trivial, List.forall_mem_cons.mpr ⟨trivial, List.forall_mem_cons.mpr ⟨trivial, List.forall_mem_cons.mpr ⟨fl_Poem_9, List.forall_mem_cons.mpr ⟨trivial, List.forall_mem_cons.mpr ⟨trivial, List.forall_mem_cons.mpr ⟨fl_Poem_18, List.forall_mem_cons.mpr ⟨trivial, List.forall_mem_cons.mpr ⟨trivial, List.forall_mem_cons.mpr ⟨trivial, List.forall_mem_cons.mpr ⟨⟨ml_Poem_37, xms_Row_hasEach⟩, List.forall_mem_cons.mpr ⟨trivial, List.forall_mem_cons.mpr ⟨trivial, List.forall_mem_cons.mpr ⟨fl_Poem_18, List.forall_mem_cons.mpr ⟨trivial, List.forall_mem_cons.mpr ⟨trivial, List.forall_mem_cons.mpr ⟨trivial, List.forall_mem_cons.mpr ⟨trivial, List.forall_mem_cons.mpr ⟨trivial, List.forall_mem_cons.mpr ⟨⟨ml_Poem_37, xms_Row_hasEach⟩, List.forall_mem_cons.mpr ⟨trivial, List.forall_mem_cons.mpr ⟨trivial, List.forall_mem_cons.mpr ⟨trivial, List.forall_mem_cons.mpr ⟨trivial, List.forall_mem_cons.mpr ⟨fl_Poem_18, List.forall_mem_cons.mpr ⟨trivial, List.forall_mem_cons.mpr ⟨trivial, List.forall_mem_cons.mpr ⟨trivial, List.forall_mem_cons.mpr ⟨⟨ml_Poem_49, xms_Perm_inverse⟩, List.forall_mem_cons.mpr ⟨trivial, List.forall_mem_cons.mpr ⟨fl_Poem_18, List.forall_mem_cons.mpr ⟨trivial, List.forall_mem_cons.mpr ⟨trivial, List.forall_mem_cons.mpr ⟨trivial, List.forall_mem_cons.mpr ⟨trivial, List.forall_mem_cons.mpr ⟨trivial, List.forall_mem_cons.mpr ⟨⟨ml_Poem_55, xms_Row_turned⟩, List.forall_mem_cons.mpr ⟨trivial, fun _ h => absurd h List.not_mem_nil⟩⟩⟩⟩⟩⟩⟩⟩⟩⟩⟩⟩⟩⟩⟩⟩⟩⟩⟩⟩⟩⟩⟩⟩⟩⟩⟩⟩⟩⟩⟩⟩⟩⟩⟩⟩⟩⟩⟩⟩
def k_Poem_turnsBy : xCd := [
  (0, .aload_n 0, 1, .inl (0, 0)),
  (1, .iload_n 2, 1, .inl (0, 0)),
  (2, .invokevirtual 59, 3, .inr (.inl g_Poem_properStanzas)),
  (5, .aload_n 0, 1, .inl (0, 0)),
  (6, .getfield 9, 3, .inl (2, 0)),
  (9, .if_icmp .ge 5, 3, .inl (14, 0)),
  (12, .iconst 0, 1, .inr (.inr (.inl (nI 0)))),
  (13, .ireturn, 1, .inl (0, 0)),
  (14, .iconst 1, 1, .inr (.inr (.inl (nI 1)))),
  (15, .istore_n 3, 1, .inl (0, 0)),
  (16, .iload_n 3, 1, .inl (0, 0)),
  (17, .aload_n 0, 1, .inl (0, 0)),
  (18, .getfield 9, 3, .inl (2, 0)),
  (21, .if_icmp .ge 33, 3, .inl (54, 0)),
  (24, .aload_n 0, 1, .inl (0, 0)),
  (25, .getfield 18, 3, .inl (2, 2)),
  (28, .iload_n 3, 1, .inl (0, 0)),
  (29, .iaload, 1, .inl (0, 0)),
  (30, .aload_n 0, 1, .inl (0, 0)),
  (31, .getfield 18, 3, .inl (2, 2)),
  (34, .iload_n 3, 1, .inl (0, 0)),
  (35, .iconst 1, 1, .inr (.inr (.inl (nI 1)))),
  (36, .isub, 1, .inl (0, 0)),
  (37, .iaload, 1, .inl (0, 0)),
  (38, .iload_n 1, 1, .inl (0, 0)),
  (39, .iload_n 2, 1, .inl (0, 0)),
  (40, .invokestatic 55, 3, .inr (.inl g_Row_turned)),
  (43, .if_icmp .eq 5, 3, .inl (48, 0)),
  (46, .iconst 0, 1, .inr (.inr (.inl (nI 0)))),
  (47, .ireturn, 1, .inl (0, 0)),
  (48, .iinc 3 1, 3, .inr (.inr (.inl (nI 1)))),
  (51, .goto (-35), 3, .inl (16, 0)),
  (54, .iconst 1, 1, .inr (.inr (.inl (nI 1)))),
  (55, .ireturn, 1, .inl (0, 0))]
set_option maxRecDepth 100000 in
set_option maxHeartbeats 4000000 in
theorem ok_Poem_turnsBy : xOK g_Poem_turnsBy k_Poem_turnsBy := ⟨by decide +kernel, by decide +kernel, List.forall_mem_cons.mpr ⟨trivial, List.forall_mem_cons.mpr ⟨trivial, List.forall_mem_cons.mpr ⟨⟨ml_Poem_59, xmv_Poem_properStanzas⟩, List.forall_mem_cons.mpr ⟨trivial, List.forall_mem_cons.mpr ⟨fl_Poem_9, List.forall_mem_cons.mpr ⟨trivial, List.forall_mem_cons.mpr ⟨trivial, List.forall_mem_cons.mpr ⟨trivial, List.forall_mem_cons.mpr ⟨trivial, List.forall_mem_cons.mpr ⟨trivial, List.forall_mem_cons.mpr ⟨trivial, List.forall_mem_cons.mpr ⟨trivial, List.forall_mem_cons.mpr ⟨fl_Poem_9, List.forall_mem_cons.mpr ⟨trivial, List.forall_mem_cons.mpr ⟨trivial, List.forall_mem_cons.mpr ⟨fl_Poem_18, List.forall_mem_cons.mpr ⟨trivial, List.forall_mem_cons.mpr ⟨trivial, List.forall_mem_cons.mpr ⟨trivial, List.forall_mem_cons.mpr ⟨fl_Poem_18, List.forall_mem_cons.mpr ⟨trivial, List.forall_mem_cons.mpr ⟨trivial, List.forall_mem_cons.mpr ⟨trivial, List.forall_mem_cons.mpr ⟨trivial, List.forall_mem_cons.mpr ⟨trivial, List.forall_mem_cons.mpr ⟨trivial, List.forall_mem_cons.mpr ⟨⟨ml_Poem_55, xms_Row_turned⟩, List.forall_mem_cons.mpr ⟨trivial, List.forall_mem_cons.mpr ⟨trivial, List.forall_mem_cons.mpr ⟨trivial, List.forall_mem_cons.mpr ⟨trivial, List.forall_mem_cons.mpr ⟨trivial, List.forall_mem_cons.mpr ⟨trivial, List.forall_mem_cons.mpr ⟨trivial, fun _ h => absurd h List.not_mem_nil⟩⟩⟩⟩⟩⟩⟩⟩⟩⟩⟩⟩⟩⟩⟩⟩⟩⟩⟩⟩⟩⟩⟩⟩⟩⟩⟩⟩⟩⟩⟩⟩⟩⟩⟩
def k_Poem_rewrite : xCd := [
  (0, .iload_n 1, 1, .inl (0, 0)),
  (1, .istore 4, 2, .inl (0, 0)),
  (3, .iconst 0, 1, .inr (.inr (.inl (nI 0)))),
  (4, .istore 5, 2, .inl (0, 0)),
  (6, .iload 5, 2, .inl (0, 0)),
  (8, .aload_n 0, 1, .inl (0, 0)),
  (9, .getfield 9, 3, .inl (2, 0)),
  (12, .if_icmp .ge 27, 3, .inl (39, 0)),
  (15, .aload_n 0, 1, .inl (0, 0)),
  (16, .getfield 18, 3, .inl (2, 2)),
  (19, .iload 5, 2, .inl (0, 0)),
  (21, .iload 4, 2, .inl (0, 0)),
  (23, .iastore, 1, .inl (0, 0)),
  (24, .iload 4, 2, .inl (0, 0)),
  (26, .iload_n 2, 1, .inl (0, 0)),
  (27, .iload_n 3, 1, .inl (0, 0)),
  (28, .invokestatic 55, 3, .inr (.inl g_Row_turned)),
  (31, .istore 4, 2, .inl (0, 0)),
  (33, .iinc 5 1, 3, .inr (.inr (.inl (nI 1)))),
  (36, .goto (-30), 3, .inl (6, 0)),
  (39, .return_, 1, .inl (0, 0))]
set_option maxRecDepth 100000 in
set_option maxHeartbeats 4000000 in
theorem ok_Poem_rewrite : xOK g_Poem_rewrite k_Poem_rewrite := ⟨by decide +kernel, by decide +kernel, List.forall_mem_cons.mpr ⟨trivial, List.forall_mem_cons.mpr ⟨trivial, List.forall_mem_cons.mpr ⟨trivial, List.forall_mem_cons.mpr ⟨trivial, List.forall_mem_cons.mpr ⟨trivial, List.forall_mem_cons.mpr ⟨trivial, List.forall_mem_cons.mpr ⟨fl_Poem_9, List.forall_mem_cons.mpr ⟨trivial, List.forall_mem_cons.mpr ⟨trivial, List.forall_mem_cons.mpr ⟨fl_Poem_18, List.forall_mem_cons.mpr ⟨trivial, List.forall_mem_cons.mpr ⟨trivial, List.forall_mem_cons.mpr ⟨trivial, List.forall_mem_cons.mpr ⟨trivial, List.forall_mem_cons.mpr ⟨trivial, List.forall_mem_cons.mpr ⟨trivial, List.forall_mem_cons.mpr ⟨⟨ml_Poem_55, xms_Row_turned⟩, List.forall_mem_cons.mpr ⟨trivial, List.forall_mem_cons.mpr ⟨trivial, List.forall_mem_cons.mpr ⟨trivial, List.forall_mem_cons.mpr ⟨trivial, fun _ h => absurd h List.not_mem_nil⟩⟩⟩⟩⟩⟩⟩⟩⟩⟩⟩⟩⟩⟩⟩⟩⟩⟩⟩⟩⟩⟩
def k_PR_init : xCd := [
  (0, .aload_n 0, 1, .inl (0, 0)),
  (1, .invokespecial 3, 3, .inl (0, 0)),
  (4, .aload_n 0, 1, .inl (0, 0)),
  (5, .new 9, 3, .inl (2, 6)),
  (8, .dup, 1, .inl (0, 0)),
  (9, .invokespecial 11, 3, .inr (.inl g_Poem_init)),
  (12, .putfield 12, 3, .inl (3, 1)),
  (15, .aload_n 0, 1, .inl (0, 0)),
  (16, .iconst 0, 1, .inr (.inr (.inl (nI 0)))),
  (17, .putfield 18, 3, .inl (3, 0)),
  (20, .aload_n 0, 1, .inl (0, 0)),
  (21, .iconst 0, 1, .inr (.inr (.inl (nI 0)))),
  (22, .putfield 22, 3, .inl (3, 2)),
  (25, .return_, 1, .inl (0, 0))]
set_option maxRecDepth 100000 in
set_option maxHeartbeats 4000000 in
theorem ok_PR_init : xOK g_PR_init k_PR_init := ⟨by decide +kernel, by decide +kernel, List.forall_mem_cons.mpr ⟨trivial, List.forall_mem_cons.mpr ⟨⟨lw_gm 151 rfl rfl, lw_gm 36 rfl rfl, lw_gm 37 rfl rfl⟩, List.forall_mem_cons.mpr ⟨trivial, List.forall_mem_cons.mpr ⟨⟨_, rfl, rfl, lw_gm 152 rfl rfl, lw_gm 45 rfl rfl, lw_gm 17 rfl rfl⟩, List.forall_mem_cons.mpr ⟨trivial, List.forall_mem_cons.mpr ⟨⟨ml_PR_11, xmi_Poem_init⟩, List.forall_mem_cons.mpr ⟨⟨fl_PR_12, fun r hr _ => by cases hr; exact ⟨rfl, rfl⟩⟩, List.forall_mem_cons.mpr ⟨trivial, List.forall_mem_cons.mpr ⟨trivial, List.forall_mem_cons.mpr ⟨⟨fl_PR_18, nf_3_0 _⟩, List.forall_mem_cons.mpr ⟨trivial, List.forall_mem_cons.mpr ⟨trivial, List.forall_mem_cons.mpr ⟨⟨fl_PR_22, nf_3_2 _⟩, List.forall_mem_cons.mpr ⟨trivial, fun _ h => absurd h List.not_mem_nil⟩⟩⟩⟩⟩⟩⟩⟩⟩⟩⟩⟩⟩⟩⟩
def k_Sea_init : xCd := [
  (0, .aload_n 0, 1, .inl (0, 0)),
  (1, .invokespecial 3, 3, .inl (0, 0)),
  (4, .aload_n 0, 1, .inl (0, 0)),
  (5, .iconst 0, 1, .inr (.inr (.inl (nI 0)))),
  (6, .putfield 9, 3, .inl (4, 0)),
  (9, .aload_n 0, 1, .inl (0, 0)),
  (10, .iconst 0, 1, .inr (.inr (.inl (nI 0)))),
  (11, .putfield 15, 3, .inl (4, 1)),
  (14, .aload_n 0, 1, .inl (0, 0)),
  (15, .iconst 0, 1, .inr (.inr (.inl (nI 0)))),
  (16, .putfield 18, 3, .inl (4, 2)),
  (19, .aload_n 0, 1, .inl (0, 0)),
  (20, .bipush 6, 2, .inr (.inr (.inl (nI 6)))),
  (22, .newarray .int, 2, .inl (0, 0)),
  (24, .putfield 21, 3, .inl (4, 3)),
  (27, .aload_n 0, 1, .inl (0, 0)),
  (28, .sipush 5040, 3, .inr (.inr (.inl (nI 5040)))),
  (31, .newarray .int, 2, .inl (0, 0)),
  (33, .putfield 25, 3, .inl (4, 4)),
  (36, .aload_n 0, 1, .inl (0, 0)),
  (37, .sipush 5040, 3, .inr (.inr (.inl (nI 5040)))),
  (40, .newarray .int, 2, .inl (0, 0)),
  (42, .putfield 28, 3, .inl (4, 5)),
  (45, .return_, 1, .inl (0, 0))]
set_option maxRecDepth 100000 in
set_option maxHeartbeats 4000000 in
theorem ok_Sea_init : xOK g_Sea_init k_Sea_init := ⟨by decide +kernel, by decide +kernel, List.forall_mem_cons.mpr ⟨trivial, List.forall_mem_cons.mpr ⟨⟨lw_gm 179 rfl rfl, lw_gm 36 rfl rfl, lw_gm 37 rfl rfl⟩, List.forall_mem_cons.mpr ⟨trivial, List.forall_mem_cons.mpr ⟨trivial, List.forall_mem_cons.mpr ⟨⟨fl_Sea_9, nf_4_0 _⟩, List.forall_mem_cons.mpr ⟨trivial, List.forall_mem_cons.mpr ⟨trivial, List.forall_mem_cons.mpr ⟨⟨fl_Sea_15, nf_4_1 _⟩, List.forall_mem_cons.mpr ⟨trivial, List.forall_mem_cons.mpr ⟨trivial, List.forall_mem_cons.mpr ⟨⟨fl_Sea_18, nf_4_2 _⟩, List.forall_mem_cons.mpr ⟨trivial, List.forall_mem_cons.mpr ⟨trivial, List.forall_mem_cons.mpr ⟨lw_gm 75 rfl rfl, List.forall_mem_cons.mpr ⟨⟨fl_Sea_21, fun r hr _ => by cases hr; exact ⟨rfl, rfl⟩⟩, List.forall_mem_cons.mpr ⟨trivial, List.forall_mem_cons.mpr ⟨trivial, List.forall_mem_cons.mpr ⟨lw_gm 75 rfl rfl, List.forall_mem_cons.mpr ⟨⟨fl_Sea_25, fun r hr _ => by cases hr; exact ⟨rfl, rfl⟩⟩, List.forall_mem_cons.mpr ⟨trivial, List.forall_mem_cons.mpr ⟨trivial, List.forall_mem_cons.mpr ⟨lw_gm 75 rfl rfl, List.forall_mem_cons.mpr ⟨⟨fl_Sea_28, fun r hr _ => by cases hr; exact ⟨rfl, rfl⟩⟩, List.forall_mem_cons.mpr ⟨trivial, fun _ h => absurd h List.not_mem_nil⟩⟩⟩⟩⟩⟩⟩⟩⟩⟩⟩⟩⟩⟩⟩⟩⟩⟩⟩⟩⟩⟩⟩⟩⟩
def k_Sea_note : xCd := [
  (0, .iload_n 1, 1, .inl (0, 0)),
  (1, .aload_n 0, 1, .inl (0, 0)),
  (2, .getfield 15, 3, .inl (4, 1)),
  (5, .invokestatic 70, 3, .inr (.inl g_Perm_number)),
  (8, .istore_n 3, 1, .inl (0, 0)),
  (9, .iload_n 3, 1, .inl (0, 0)),
  (10, .ifCond .lt 57, 3, .inl (67, 0)),
  (13, .iload_n 3, 1, .inl (0, 0)),
  (14, .sipush 5040, 3, .inr (.inr (.inl (nI 5040)))),
  (17, .if_icmp .ge 50, 3, .inl (67, 0)),
  (20, .aload_n 0, 1, .inl (0, 0)),
  (21, .getfield 28, 3, .inl (4, 5)),
  (24, .iload_n 3, 1, .inl (0, 0)),
  (25, .iaload, 1, .inl (0, 0)),
  (26, .iconst (-1), 1, .inr (.inr (.inl (-1)))),
  (27, .if_icmp .ne 40, 3, .inl (67, 0)),
  (30, .aload_n 0, 1, .inl (0, 0)),
  (31, .getfield 9, 3, .inl (4, 0)),
  (34, .sipush 5040, 3, .inr (.inr (.inl (nI 5040)))),
  (37, .if_icmp .ge 30, 3, .inl (67, 0)),
  (40, .aload_n 0, 1, .inl (0, 0)),
  (41, .getfield 28, 3, .inl (4, 5)),
  (44, .iload_n 3, 1, .inl (0, 0)),
  (45, .iload_n 2, 1, .inl (0, 0)),
  (46, .iastore, 1, .inl (0, 0)),
  (47, .aload_n 0, 1, .inl (0, 0)),
  (48, .getfield 25, 3, .inl (4, 4)),
  (51, .aload_n 0, 1, .inl (0, 0)),
  (52, .getfield 9, 3, .inl (4, 0)),
  (55, .iload_n 1, 1, .inl (0, 0)),
  (56, .iastore, 1, .inl (0, 0)),
  (57, .aload_n 0, 1, .inl (0, 0)),
  (58, .dup, 1, .inl (0, 0)),
  (59, .getfield 9, 3, .inl (4, 0)),
  (62, .iconst 1, 1, .inr (.inr (.inl (nI 1)))),
  (63, .iadd, 1, .inl (0, 0)),
  (64, .putfield 9, 3, .inl (4, 0)),
  (67, .return_, 1, .inl (0, 0))]
set_option maxRecDepth 100000 in
set_option maxHeartbeats 4000000 in
theorem ok_Sea_note : xOK g_Sea_note k_Sea_note := ⟨by decide +kernel, by decide +kernel, List.forall_mem_cons.mpr ⟨trivial, List.forall_mem_cons.mpr ⟨trivial, List.forall_mem_cons.mpr ⟨fl_Sea_15, List.forall_mem_cons.mpr ⟨⟨ml_Sea_70, xms_Perm_number⟩, List.forall_mem_cons.mpr ⟨trivial, List.forall_mem_cons.mpr ⟨trivial, List.forall_mem_cons.mpr ⟨trivial, List.forall_mem_cons.mpr ⟨trivial, List.forall_mem_cons.mpr ⟨trivial, List.forall_mem_cons.mpr ⟨trivial, List.forall_mem_cons.mpr ⟨trivial, List.forall_mem_cons.mpr ⟨fl_Sea_28, List.forall_mem_cons.mpr ⟨trivial, List.forall_mem_cons.mpr ⟨trivial, List.forall_mem_cons.mpr ⟨trivial, List.forall_mem_cons.mpr ⟨trivial, List.forall_mem_cons.mpr ⟨trivial, List.forall_mem_cons.mpr ⟨fl_Sea_9, List.forall_mem_cons.mpr ⟨trivial, List.forall_mem_cons.mpr ⟨trivial, List.forall_mem_cons.mpr ⟨trivial, List.forall_mem_cons.mpr ⟨fl_Sea_28, List.forall_mem_cons.mpr ⟨trivial, List.forall_mem_cons.mpr ⟨trivial, List.forall_mem_cons.mpr ⟨trivial, List.forall_mem_cons.mpr ⟨trivial, List.forall_mem_cons.mpr ⟨fl_Sea_25, List.forall_mem_cons.mpr ⟨trivial, List.forall_mem_cons.mpr ⟨fl_Sea_9, List.forall_mem_cons.mpr ⟨trivial, List.forall_mem_cons.mpr ⟨trivial, List.forall_mem_cons.mpr ⟨trivial, List.forall_mem_cons.mpr ⟨trivial, List.forall_mem_cons.mpr ⟨fl_Sea_9, List.forall_mem_cons.mpr ⟨trivial, List.forall_mem_cons.mpr ⟨trivial, List.forall_mem_cons.mpr ⟨⟨fl_Sea_9, nf_4_0 _⟩, List.forall_mem_cons.mpr ⟨trivial, fun _ h => absurd h List.not_mem_nil⟩⟩⟩⟩⟩⟩⟩⟩⟩⟩⟩⟩⟩⟩⟩⟩⟩⟩⟩⟩⟩⟩⟩⟩⟩⟩⟩⟩⟩⟩⟩⟩⟩⟩⟩⟩⟩⟩⟩
def k_Sea_depthOf : xCd := [
  (0, .iload_n 1, 1, .inl (0, 0)),
  (1, .aload_n 0, 1, .inl (0, 0)),
  (2, .getfield 15, 3, .inl (4, 1)),
  (5, .invokestatic 70, 3, .inr (.inl g_Perm_number)),
  (8, .istore_n 2, 1, .inl (0, 0)),
  (9, .iload_n 2, 1, .inl (0, 0)),
  (10, .ifCond .lt 19, 3, .inl (29, 0)),
  (13, .iload_n 2, 1, .inl (0, 0)),
  (14, .sipush 5040, 3, .inr (.inr (.inl (nI 5040)))),
  (17, .if_icmp .ge 12, 3, .inl (29, 0)),
  (20, .aload_n 0, 1, .inl (0, 0)),
  (21, .getfield 28, 3, .inl (4, 5)),
  (24, .iload_n 2, 1, .inl (0, 0)),
  (25, .iaload, 1, .inl (0, 0)),
  (26, .goto 4, 3, .inl (30, 0)),
  (29, .iconst (-1), 1, .inr (.inr (.inl (-1)))),
  (30, .ireturn, 1, .inl (0, 0))]
set_option maxRecDepth 100000 in
set_option maxHeartbeats 4000000 in
theorem ok_Sea_depthOf : xOK g_Sea_depthOf k_Sea_depthOf := ⟨by decide +kernel, by decide +kernel, List.forall_mem_cons.mpr ⟨trivial, List.forall_mem_cons.mpr ⟨trivial, List.forall_mem_cons.mpr ⟨fl_Sea_15, List.forall_mem_cons.mpr ⟨⟨ml_Sea_70, xms_Perm_number⟩, List.forall_mem_cons.mpr ⟨trivial, List.forall_mem_cons.mpr ⟨trivial, List.forall_mem_cons.mpr ⟨trivial, List.forall_mem_cons.mpr ⟨trivial, List.forall_mem_cons.mpr ⟨trivial, List.forall_mem_cons.mpr ⟨trivial, List.forall_mem_cons.mpr ⟨trivial, List.forall_mem_cons.mpr ⟨fl_Sea_28, List.forall_mem_cons.mpr ⟨trivial, List.forall_mem_cons.mpr ⟨trivial, List.forall_mem_cons.mpr ⟨trivial, List.forall_mem_cons.mpr ⟨trivial, List.forall_mem_cons.mpr ⟨trivial, fun _ h => absurd h List.not_mem_nil⟩⟩⟩⟩⟩⟩⟩⟩⟩⟩⟩⟩⟩⟩⟩⟩⟩⟩
def k_Sea_isFactor : xCd := [
  (0, .aload_n 0, 1, .inl (0, 0)),
  (1, .getfield 18, 3, .inl (4, 2)),
  (4, .iload_n 1, 1, .inl (0, 0)),
  (5, .ishr, 1, .inl (0, 0)),
  (6, .iconst 1, 1, .inr (.inr (.inl (nI 1)))),
  (7, .iand, 1, .inl (0, 0)),
  (8, .iconst 1, 1, .inr (.inr (.inl (nI 1)))),
  (9, .if_icmp .ne 7, 3, .inl (16, 0)),
  (12, .iconst 1, 1, .inr (.inr (.inl (nI 1)))),
  (13, .goto 4, 3, .inl (17, 0)),
  (16, .iconst 0, 1, .inr (.inr (.inl (nI 0)))),
  (17, .ireturn, 1, .inl (0, 0))]
set_option maxRecDepth 100000 in
set_option maxHeartbeats 4000000 in
theorem ok_Sea_isFactor : xOK g_Sea_isFactor k_Sea_isFactor := ⟨by decide +kernel, by decide +kernel, List.forall_mem_cons.mpr ⟨trivial, List.forall_mem_cons.mpr ⟨fl_Sea_18, List.forall_mem_cons.mpr ⟨trivial, List.forall_mem_cons.mpr ⟨trivial, List.forall_mem_cons.mpr ⟨trivial, List.forall_mem_cons.mpr ⟨trivial, List.forall_mem_cons.mpr ⟨trivial, List.forall_mem_cons.mpr ⟨trivial, List.forall_mem_cons.mpr ⟨trivial, List.forall_mem_cons.mpr ⟨trivial, List.forall_mem_cons.mpr ⟨trivial, List.forall_mem_cons.mpr ⟨trivial, fun _ h => absurd h List.not_mem_nil⟩⟩⟩⟩⟩⟩⟩⟩⟩⟩⟩⟩⟩
def k_Sea_spread : xCd := [
  (0, .aload_n 0, 1, .inl (0, 0)),
  (1, .aload_n 1, 1, .inl (0, 0)),
  (2, .getfield 31, 3, .inl (5, 0)),
  (5, .putfield 15, 3, .inl (4, 1)),
  (8, .aload_n 0, 1, .inl (0, 0)),
  (9, .iload_n 2, 1, .inl (0, 0)),
  (10, .putfield 18, 3, .inl (4, 2)),
  (13, .aload_n 1, 1, .inl (0, 0)),
  (14, .getfield 34, 3, .inl (5, 2)),
  (17, .iconst 0, 1, .inr (.inr (.inl (nI 0)))),
  (18, .aload_n 0, 1, .inl (0, 0)),
  (19, .getfield 21, 3, .inl (4, 3)),
  (22, .iconst 0, 1, .inr (.inr (.inl (nI 0)))),
  (23, .bipush 6, 2, .inr (.inr (.inl (nI 6)))),
  (25, .invokestatic 37, 3, .inl (0, 0)),
  (28, .aload_n 0, 1, .inl (0, 0)),
  (29, .getfield 28, 3, .inl (4, 5)),
  (32, .iconst (-1), 1, .inr (.inr (.inl (-1)))),
  (33, .invokestatic 43, 3, .inr (.inl g_JA_fill)),
  (36, .aload_n 0, 1, .inl (0, 0)),
  (37, .iconst 0, 1, .inr (.inr (.inl (nI 0)))),
  (38, .putfield 9, 3, .inl (4, 0)),
  (41, .aload_n 0, 1, .inl (0, 0)),
  (42, .aload_n 0, 1, .inl (0, 0)),
  (43, .getfield 15, 3, .inl (4, 1)),
  (46, .invokestatic 49, 3, .inr (.inl g_Row_ascending)),
  (49, .iconst 0, 1, .inr (.inr (.inl (nI 0)))),
  (50, .invokevirtual 55, 3, .inr (.inl g_Sea_note)),
  (53, .iconst 0, 1, .inr (.inr (.inl (nI 0)))),
  (54, .istore_n 3, 1, .inl (0, 0)),
  (55, .iload_n 3, 1, .inl (0, 0)),
  (56, .aload_n 0, 1, .inl (0, 0)),
  (57, .getfield 9, 3, .inl (4, 0)),
  (60, .if_icmp .ge 81, 3, .inl (141, 0)),
  (63, .iload_n 3, 1, .inl (0, 0)),
  (64, .sipush 5040, 3, .inr (.inr (.inl (nI 5040)))),
  (67, .if_icmp .ge 74, 3, .inl (141, 0)),
  (70, .aload_n 0, 1, .inl (0, 0)),
  (71, .aload_n 0, 1, .inl (0, 0)),
  (72, .getfield 25, 3, .inl (4, 4)),
  (75, .iload_n 3, 1, .inl (0, 0)),
  (76, .iaload, 1, .inl (0, 0)),
  (77, .invokevirtual 59, 3, .inr (.inl g_Sea_depthOf)),
  (80, .istore 4, 2, .inl (0, 0)),
  (82, .iconst 0, 1, .inr (.inr (.inl (nI 0)))),
  (83, .istore 5, 2, .inl (0, 0)),
  (85, .iload 5, 2, .inl (0, 0)),
  (87, .bipush 6, 2, .inr (.inr (.inl (nI 6)))),
  (89, .if_icmp .ge 46, 3, .inl (135, 0)),
  (92, .aload_n 0, 1, .inl (0, 0)),
  (93, .iload 5, 2, .inl (0, 0)),
  (95, .invokevirtual 62, 3, .inr (.inl g_Sea_isFactor)),
  (98, .ifCond .eq 31, 3, .inl (129, 0)),
  (101, .aload_n 0, 1, .inl (0, 0)),
  (102, .aload_n 0, 1, .inl (0, 0)),
  (103, .getfield 25, 3, .inl (4, 4)),
  (106, .iload_n 3, 1, .inl (0, 0)),
  (107, .iaload, 1, .inl (0, 0)),
  (108, .aload_n 0, 1, .inl (0, 0)),
  (109, .getfield 21, 3, .inl (4, 3)),
  (112, .iload 5, 2, .inl (0, 0)),
  (114, .iaload, 1, .inl (0, 0)),
  (115, .aload_n 0, 1, .inl (0, 0)),
  (116, .getfield 15, 3, .inl (4, 1)),
  (119, .invokestatic 66, 3, .inr (.inl g_Row_turned)),
  (122, .iload 4, 2, .inl (0, 0)),
  (124, .iconst 1, 1, .inr (.inr (.inl (nI 1)))),
  (125, .iadd, 1, .inl (0, 0)),
  (126, .invokevirtual 55, 3, .inr (.inl g_Sea_note)),
  (129, .iinc 5 1, 3, .inr (.inr (.inl (nI 1)))),
  (132, .goto (-47), 3, .inl (85, 0)),
  (135, .iinc 3 1, 3, .inr (.inr (.inl (nI 1)))),
  (138, .goto (-83), 3, .inl (55, 0)),
  (141, .return_, 1, .inl (0, 0))]
set_option maxRecDepth 100000 in
set_option maxHeartbeats 4000000 in
theorem ok_Sea_spread : xOK g_Sea_spread k_Sea_spread := ⟨by decide +kernel, by decide +kernel, List.forall_mem_cons.mpr ⟨trivial, List.forall_mem_cons.mpr ⟨trivial, List.forall_mem_cons.mpr ⟨fl_Sea_31, List.forall_mem_cons.mpr ⟨⟨fl_Sea_15, nf_4_1 _⟩, List.forall_mem_cons.mpr ⟨trivial, List.forall_mem_cons.mpr ⟨trivial, List.forall_mem_cons.mpr ⟨⟨fl_Sea_18, nf_4_2 _⟩, List.forall_mem_cons.mpr ⟨trivial, List.forall_mem_cons.mpr ⟨fl_Sea_34, List.forall_mem_cons.mpr ⟨trivial, List.forall_mem_cons.mpr ⟨trivial, List.forall_mem_cons.mpr ⟨fl_Sea_21, List.forall_mem_cons.mpr ⟨trivial, List.forall_mem_cons.mpr ⟨trivial, List.forall_mem_cons.mpr ⟨⟨lw_gm 370 rfl rfl, lw_gm 258 rfl rfl, lw_gm 257 rfl rfl, lw_gm 26 rfl rfl⟩, List.forall_mem_cons.mpr ⟨trivial, List.forall_mem_cons.mpr ⟨fl_Sea_28, List.forall_mem_cons.mpr ⟨trivial, List.forall_mem_cons.mpr ⟨⟨ml_Sea_43, xms_JA_fill⟩, List.forall_mem_cons.mpr ⟨trivial, List.forall_mem_cons.mpr ⟨trivial, List.forall_mem_cons.mpr ⟨⟨fl_Sea_9, nf_4_0 _⟩, List.forall_mem_cons.mpr ⟨trivial, List.forall_mem_cons.mpr ⟨trivial, List.forall_mem_cons.mpr ⟨fl_Sea_15, List.forall_mem_cons.mpr ⟨⟨ml_Sea_49, xms_Row_ascending⟩, List.forall_mem_cons.mpr ⟨trivial, List.forall_mem_cons.mpr ⟨⟨ml_Sea_55, xmv_Sea_note⟩, List.forall_mem_cons.mpr ⟨trivial, List.forall_mem_cons.mpr ⟨trivial, List.forall_mem_cons.mpr ⟨trivial, List.forall_mem_cons.mpr ⟨trivial, List.forall_mem_cons.mpr ⟨fl_Sea_9, List.forall_mem_cons.mpr ⟨trivial, List.forall_mem_cons.mpr ⟨trivial, List.forall_mem_cons.mpr ⟨trivial, List.forall_mem_cons.mpr ⟨trivial, List.forall_mem_cons.mpr ⟨trivial, List.forall_mem_cons.mpr ⟨trivial, List.forall_mem_cons.mpr ⟨fl_Sea_25, List.forall_mem_cons.mpr ⟨trivial, List.forall_mem_cons.mpr ⟨trivial, List.forall_mem_cons.mpr ⟨⟨ml_Sea_59, xmv_Sea_depthOf⟩, List.forall_mem_cons.mpr ⟨trivial, List.forall_mem_cons.mpr ⟨trivial, List.forall_mem_cons.mpr ⟨trivial, List.forall_mem_cons.mpr ⟨trivial, List.forall_mem_cons.mpr ⟨trivial, List.forall_mem_cons.mpr ⟨trivial, List.forall_mem_cons.mpr ⟨trivial, List.forall_mem_cons.mpr ⟨trivial, List.forall_mem_cons.mpr ⟨⟨ml_Sea_62, xmv_Sea_isFactor⟩, List.forall_mem_cons.mpr ⟨trivial, List.forall_mem_cons.mpr ⟨trivial, List.forall_mem_cons.mpr ⟨trivial, List.forall_mem_cons.mpr ⟨fl_Sea_25, List.forall_mem_cons.mpr ⟨trivial, List.forall_mem_cons.mpr ⟨trivial, List.forall_mem_cons.mpr ⟨trivial, List.forall_mem_cons.mpr ⟨fl_Sea_21, List.forall_mem_cons.mpr ⟨trivial, List.forall_mem_cons.mpr ⟨trivial, List.forall_mem_cons.mpr ⟨trivial, List.forall_mem_cons.mpr ⟨fl_Sea_15, List.forall_mem_cons.mpr ⟨⟨ml_Sea_66, xms_Row_turned⟩, List.forall_mem_cons.mpr ⟨trivial, List.forall_mem_cons.mpr ⟨trivial, List.forall_mem_cons.mpr ⟨trivial, List.forall_mem_cons.mpr ⟨⟨ml_Sea_55, xmv_Sea_note⟩, List.forall_mem_cons.mpr ⟨trivial, List.forall_mem_cons.mpr ⟨trivial, List.forall_mem_cons.mpr ⟨trivial, List.forall_mem_cons.mpr ⟨trivial, List.forall_mem_cons.mpr ⟨trivial, fun _ h => absurd h List.not_mem_nil⟩⟩⟩⟩⟩⟩⟩⟩⟩⟩⟩⟩⟩⟩⟩⟩⟩⟩⟩⟩⟩⟩⟩⟩⟩⟩⟩⟩⟩⟩⟩⟩⟩⟩⟩⟩⟩⟩⟩⟩⟩⟩⟩⟩⟩⟩⟩⟩⟩⟩⟩⟩⟩⟩⟩⟩⟩⟩⟩⟩⟩⟩⟩⟩⟩⟩⟩⟩⟩⟩⟩⟩⟩⟩⟩
def k_Sea_without : xCd := [
  (0, .iload_n 1, 1, .inl (0, 0)),
  (1, .ifCond .lt 9, 3, .inl (10, 0)),
  (4, .iload_n 1, 1, .inl (0, 0)),
  (5, .bipush 6, 2, .inr (.inr (.inl (nI 6)))),
  (7, .if_icmp .lt 5, 3, .inl (12, 0)),
  (10, .iload_n 2, 1, .inl (0, 0)),
  (11, .ireturn, 1, .inl (0, 0)),
  (12, .aload_n 0, 1, .inl (0, 0)),
  (13, .getfield 21, 3, .inl (4, 3)),
  (16, .iload_n 1, 1, .inl (0, 0)),
  (17, .iaload, 1, .inl (0, 0)),
  (18, .aload_n 0, 1, .inl (0, 0)),
  (19, .getfield 15, 3, .inl (4, 1)),
  (22, .invokestatic 82, 3, .inr (.inl g_Perm_inverse)),
  (25, .iload_n 2, 1, .inl (0, 0)),
  (26, .aload_n 0, 1, .inl (0, 0)),
  (27, .getfield 15, 3, .inl (4, 1)),
  (30, .invokestatic 66, 3, .inr (.inl g_Row_turned)),
  (33, .ireturn, 1, .inl (0, 0))]
set_option maxRecDepth 100000 in
set_option maxHeartbeats 4000000 in
theorem ok_Sea_without : xOK g_Sea_without k_Sea_without := ⟨by decide +kernel, by decide +kernel, List.forall_mem_cons.mpr ⟨trivial, List.forall_mem_cons.mpr ⟨trivial, List.forall_mem_cons.mpr ⟨trivial, List.forall_mem_cons.mpr ⟨trivial, List.forall_mem_cons.mpr ⟨trivial, List.forall_mem_cons.mpr ⟨trivial, List.forall_mem_cons.mpr ⟨trivial, List.forall_mem_cons.mpr ⟨trivial, List.forall_mem_cons.mpr ⟨fl_Sea_21, List.forall_mem_cons.mpr ⟨trivial, List.forall_mem_cons.mpr ⟨trivial, List.forall_mem_cons.mpr ⟨trivial, List.forall_mem_cons.mpr ⟨fl_Sea_15, List.forall_mem_cons.mpr ⟨⟨ml_Sea_82, xms_Perm_inverse⟩, List.forall_mem_cons.mpr ⟨trivial, List.forall_mem_cons.mpr ⟨trivial, List.forall_mem_cons.mpr ⟨fl_Sea_15, List.forall_mem_cons.mpr ⟨⟨ml_Sea_66, xms_Row_turned⟩, List.forall_mem_cons.mpr ⟨trivial, fun _ h => absurd h List.not_mem_nil⟩⟩⟩⟩⟩⟩⟩⟩⟩⟩⟩⟩⟩⟩⟩⟩⟩⟩⟩⟩
def k_Sea_firstFactor : xCd := [
  (0, .aload_n 0, 1, .inl (0, 0)),
  (1, .iload_n 1, 1, .inl (0, 0)),
  (2, .invokevirtual 59, 3, .inr (.inl g_Sea_depthOf)),
  (5, .istore_n 2, 1, .inl (0, 0)),
  (6, .iconst 0, 1, .inr (.inr (.inl (nI 0)))),
  (7, .istore_n 3, 1, .inl (0, 0)),
  (8, .iload_n 3, 1, .inl (0, 0)),
  (9, .bipush 6, 2, .inr (.inr (.inl (nI 6)))),
  (11, .if_icmp .ge 35, 3, .inl (46, 0)),
  (14, .aload_n 0, 1, .inl (0, 0)),
  (15, .iload_n 3, 1, .inl (0, 0)),
  (16, .invokevirtual 62, 3, .inr (.inl g_Sea_isFactor)),
  (19, .ifCond .eq 21, 3, .inl (40, 0)),
  (22, .aload_n 0, 1, .inl (0, 0)),
  (23, .aload_n 0, 1, .inl (0, 0)),
  (24, .iload_n 3, 1, .inl (0, 0)),
  (25, .iload_n 1, 1, .inl (0, 0)),
  (26, .invokevirtual 79, 3, .inr (.inl g_Sea_without)),
  (29, .invokevirtual 59, 3, .inr (.inl g_Sea_depthOf)),
  (32, .iload_n 2, 1, .inl (0, 0)),
  (33, .iconst 1, 1, .inr (.inr (.inl (nI 1)))),
  (34, .isub, 1, .inl (0, 0)),
  (35, .if_icmp .ne 5, 3, .inl (40, 0)),
  (38, .iload_n 3, 1, .inl (0, 0)),
  (39, .ireturn, 1, .inl (0, 0)),
  (40, .iinc 3 1, 3, .inr (.inr (.inl (nI 1)))),
  (43, .goto (-35), 3, .inl (8, 0)),
  (46, .bipush (-9), 2, .inr (.inr (.inl (-9)))),
  (48, .ireturn, 1, .inl (0, 0))]
set_option maxRecDepth 100000 in
set_option maxHeartbeats 4000000 in
theorem ok_Sea_firstFactor : xOK g_Sea_firstFactor k_Sea_firstFactor := ⟨by decide +kernel, by decide +kernel, List.forall_mem_cons.mpr ⟨trivial, List.forall_mem_cons.mpr ⟨trivial, List.forall_mem_cons.mpr ⟨⟨ml_Sea_59, xmv_Sea_depthOf⟩, List.forall_mem_cons.mpr ⟨trivial, List.forall_mem_cons.mpr ⟨trivial, List.forall_mem_cons.mpr ⟨trivial, List.forall_mem_cons.mpr ⟨trivial, List.forall_mem_cons.mpr ⟨trivial, List.forall_mem_cons.mpr ⟨trivial, List.forall_mem_cons.mpr ⟨trivial, List.forall_mem_cons.mpr ⟨trivial, List.forall_mem_cons.mpr ⟨⟨ml_Sea_62, xmv_Sea_isFactor⟩, List.forall_mem_cons.mpr ⟨trivial, List.forall_mem_cons.mpr ⟨trivial, List.forall_mem_cons.mpr ⟨trivial, List.forall_mem_cons.mpr ⟨trivial, List.forall_mem_cons.mpr ⟨trivial, List.forall_mem_cons.mpr ⟨⟨ml_Sea_79, xmv_Sea_without⟩, List.forall_mem_cons.mpr ⟨⟨ml_Sea_59, xmv_Sea_depthOf⟩, List.forall_mem_cons.mpr ⟨trivial, List.forall_mem_cons.mpr ⟨trivial, List.forall_mem_cons.mpr ⟨trivial, List.forall_mem_cons.mpr ⟨trivial, List.forall_mem_cons.mpr ⟨trivial, List.forall_mem_cons.mpr ⟨trivial, List.forall_mem_cons.mpr ⟨trivial, List.forall_mem_cons.mpr ⟨trivial, List.forall_mem_cons.mpr ⟨trivial, List.forall_mem_cons.mpr ⟨trivial, fun _ h => absurd h List.not_mem_nil⟩⟩⟩⟩⟩⟩⟩⟩⟩⟩⟩⟩⟩⟩⟩⟩⟩⟩⟩⟩⟩⟩⟩⟩⟩⟩⟩⟩⟩⟩
def k_Sea_factorAt : xCd := [
  (0, .iload_n 1, 1, .inl (0, 0)),
  (1, .istore_n 3, 1, .inl (0, 0)),
  (2, .iconst 0, 1, .inr (.inr (.inl (nI 0)))),
  (3, .istore 4, 2, .inl (0, 0)),
  (5, .iload 4, 2, .inl (0, 0)),
  (7, .iload_n 2, 1, .inl (0, 0)),
  (8, .if_icmp .ge 20, 3, .inl (28, 0)),
  (11, .aload_n 0, 1, .inl (0, 0)),
  (12, .aload_n 0, 1, .inl (0, 0)),
  (13, .iload_n 3, 1, .inl (0, 0)),
  (14, .invokevirtual 76, 3, .inr (.inl g_Sea_firstFactor)),
  (17, .iload_n 3, 1, .inl (0, 0)),
  (18, .invokevirtual 79, 3, .inr (.inl g_Sea_without)),
  (21, .istore_n 3, 1, .inl (0, 0)),
  (22, .iinc 4 1, 3, .inr (.inr (.inl (nI 1)))),
  (25, .goto (-20), 3, .inl (5, 0)),
  (28, .aload_n 0, 1, .inl (0, 0)),
  (29, .iload_n 3, 1, .inl (0, 0)),
  (30, .invokevirtual 76, 3, .inr (.inl g_Sea_firstFactor)),
  (33, .ireturn, 1, .inl (0, 0))]
set_option maxRecDepth 100000 in
set_option maxHeartbeats 4000000 in
theorem ok_Sea_factorAt : xOK g_Sea_factorAt k_Sea_factorAt := ⟨by decide +kernel, by decide +kernel, List.forall_mem_cons.mpr ⟨trivial, List.forall_mem_cons.mpr ⟨trivial, List.forall_mem_cons.mpr ⟨trivial, List.forall_mem_cons.mpr ⟨trivial, List.forall_mem_cons.mpr ⟨trivial, List.forall_mem_cons.mpr ⟨trivial, List.forall_mem_cons.mpr ⟨trivial, List.forall_mem_cons.mpr ⟨trivial, List.forall_mem_cons.mpr ⟨trivial, List.forall_mem_cons.mpr ⟨trivial, List.forall_mem_cons.mpr ⟨⟨ml_Sea_76, xmv_Sea_firstFactor⟩, List.forall_mem_cons.mpr ⟨trivial, List.forall_mem_cons.mpr ⟨⟨ml_Sea_79, xmv_Sea_without⟩, List.forall_mem_cons.mpr ⟨trivial, List.forall_mem_cons.mpr ⟨trivial, List.forall_mem_cons.mpr ⟨trivial, List.forall_mem_cons.mpr ⟨trivial, List.forall_mem_cons.mpr ⟨trivial, List.forall_mem_cons.mpr ⟨⟨ml_Sea_76, xmv_Sea_firstFactor⟩, List.forall_mem_cons.mpr ⟨trivial, fun _ h => absurd h List.not_mem_nil⟩⟩⟩⟩⟩⟩⟩⟩⟩⟩⟩⟩⟩⟩⟩⟩⟩⟩⟩⟩⟩
end
section
/-! CODE, decoded, with its links; checked once -/
def k_TV_init : xCd := [
  (0, .aload_n 0, 1, .inl (0, 0)),
  (1, .invokespecial 3, 3, .inl (0, 0)),
  (4, .aload_n 0, 1, .inl (0, 0)),
  (5, .new 9, 3, .inl (5, 4)),
  (8, .dup, 1, .inl (0, 0)),
  (9, .invokespecial 11, 3, .inr (.inl g_Sta_init)),
  (12, .putfield 12, 3, .inl (8, 0)),
  (15, .aload_n 0, 1, .inl (0, 0)),
  (16, .new 16, 3, .inl (1, 3)),
  (19, .dup, 1, .inl (0, 0)),
  (20, .invokespecial 18, 3, .inr (.inl g_Hist_init)),
  (23, .putfield 19, 3, .inl (8, 1)),
  (26, .aload_n 0, 1, .inl (0, 0)),
  (27, .new 23, 3, .inl (6, 2)),
  (30, .dup, 1, .inl (0, 0)),
  (31, .invokespecial 25, 3, .inr (.inl g_Txt_init)),
  (34, .putfield 26, 3, .inl (8, 2)),
  (37, .aload_n 0, 1, .inl (0, 0)),
  (38, .new 30, 3, .inl (3, 3)),
  (41, .dup, 1, .inl (0, 0)),
  (42, .invokespecial 32, 3, .inr (.inl g_PR_init)),
  (45, .putfield 33, 3, .inl (8, 3)),
  (48, .aload_n 0, 1, .inl (0, 0)),
  (49, .new 37, 3, .inl (7, 1)),
  (52, .dup, 1, .inl (0, 0)),
  (53, .invokespecial 39, 3, .inr (.inl g_TR_init)),
  (56, .putfield 40, 3, .inl (8, 4)),
  (59, .aload_n 0, 1, .inl (0, 0)),
  (60, .new 44, 3, .inl (4, 6)),
  (63, .dup, 1, .inl (0, 0)),
  (64, .invokespecial 46, 3, .inr (.inl g_Sea_init)),
  (67, .putfield 47, 3, .inl (8, 5)),
  (70, .aload_n 0, 1, .inl (0, 0)),
  (71, .new 51, 3, .inl (0, 4)),
  (74, .dup, 1, .inl (0, 0)),
  (75, .invokespecial 53, 3, .inr (.inl g_Fit_init)),
  (78, .putfield 54, 3, .inl (8, 6)),
  (81, .aload_n 0, 1, .inl (0, 0)),
  (82, .bipush 12, 2, .inr (.inr (.inl (nI 12)))),
  (84, .newarray .int, 2, .inl (0, 0)),
  (86, .putfield 58, 3, .inl (8, 7)),
  (89, .return_, 1, .inl (0, 0))]
set_option maxRecDepth 100000 in
set_option maxHeartbeats 4000000 in
theorem ok_TV_init : xOK g_TV_init k_TV_init := ⟨by decide +kernel, by decide +kernel, List.forall_mem_cons.mpr ⟨trivial, List.forall_mem_cons.mpr ⟨⟨lw_gm 35 rfl rfl, lw_gm 36 rfl rfl, lw_gm 37 rfl rfl⟩, List.forall_mem_cons.mpr ⟨trivial, List.forall_mem_cons.mpr ⟨⟨_, rfl, rfl, lw_gm 38 rfl rfl, lw_gm 39 rfl rfl, lw_gm 16 rfl rfl⟩, List.forall_mem_cons.mpr ⟨trivial, List.forall_mem_cons.mpr ⟨⟨ml_TV_11, xmi_Sta_init⟩, List.forall_mem_cons.mpr ⟨⟨fl_TV_12, fun r hr _ => by cases hr; exact ⟨rfl, rfl⟩⟩, List.forall_mem_cons.mpr ⟨trivial, List.forall_mem_cons.mpr ⟨⟨_, rfl, rfl, lw_gm 112 rfl rfl, lw_gm 113 rfl rfl, lw_gm 20 rfl rfl⟩, List.forall_mem_cons.mpr ⟨trivial, List.forall_mem_cons.mpr ⟨⟨ml_TV_18, xmi_Hist_init⟩, List.forall_mem_cons.mpr ⟨⟨fl_TV_19, fun r hr _ => by cases hr; exact ⟨rfl, rfl⟩⟩, List.forall_mem_cons.mpr ⟨trivial, List.forall_mem_cons.mpr ⟨⟨_, rfl, rfl, lw_gm 132 rfl rfl, lw_gm 133 rfl rfl, lw_gm 21 rfl rfl⟩, List.forall_mem_cons.mpr ⟨trivial, List.forall_mem_cons.mpr ⟨⟨ml_TV_25, xmi_Txt_init⟩, List.forall_mem_cons.mpr ⟨⟨fl_TV_26, fun r hr _ => by cases hr; exact ⟨rfl, rfl⟩⟩, List.forall_mem_cons.mpr ⟨trivial, List.forall_mem_cons.mpr ⟨⟨_, rfl, rfl, lw_gm 146 rfl rfl, lw_gm 147 rfl rfl, lw_gm 22 rfl rfl⟩, List.forall_mem_cons.mpr ⟨trivial, List.forall_mem_cons.mpr ⟨⟨ml_TV_32, xmi_PR_init⟩, List.forall_mem_cons.mpr ⟨⟨fl_TV_33, fun r hr _ => by cases hr; exact ⟨rfl, rfl⟩⟩, List.forall_mem_cons.mpr ⟨trivial, List.forall_mem_cons.mpr ⟨⟨_, rfl, rfl, lw_gm 164 rfl rfl, lw_gm 165 rfl rfl, lw_gm 23 rfl rfl⟩, List.forall_mem_cons.mpr ⟨trivial, List.forall_mem_cons.mpr ⟨⟨ml_TV_39, xmi_TR_init⟩, List.forall_mem_cons.mpr ⟨⟨fl_TV_40, fun r hr _ => by cases hr; exact ⟨rfl, rfl⟩⟩, List.forall_mem_cons.mpr ⟨trivial, List.forall_mem_cons.mpr ⟨⟨_, rfl, rfl, lw_gm 174 rfl rfl, lw_gm 175 rfl rfl, lw_gm 24 rfl rfl⟩, List.forall_mem_cons.mpr ⟨trivial, List.forall_mem_cons.mpr ⟨⟨ml_TV_46, xmi_Sea_init⟩, List.forall_mem_cons.mpr ⟨⟨fl_TV_47, fun r hr _ => by cases hr; exact ⟨rfl, rfl⟩⟩, List.forall_mem_cons.mpr ⟨trivial, List.forall_mem_cons.mpr ⟨⟨_, rfl, rfl, lw_gm 200 rfl rfl, lw_gm 201 rfl rfl, lw_gm 25 rfl rfl⟩, List.forall_mem_cons.mpr ⟨trivial, List.forall_mem_cons.mpr ⟨⟨ml_TV_53, xmi_Fit_init⟩, List.forall_mem_cons.mpr ⟨⟨fl_TV_54, fun r hr _ => by cases hr; exact ⟨rfl, rfl⟩⟩, List.forall_mem_cons.mpr ⟨trivial, List.forall_mem_cons.mpr ⟨trivial, List.forall_mem_cons.mpr ⟨lw_gm 75 rfl rfl, List.forall_mem_cons.mpr ⟨⟨fl_TV_58, fun r hr _ => by cases hr; exact ⟨rfl, rfl⟩⟩, List.forall_mem_cons.mpr ⟨trivial, fun _ h => absurd h List.not_mem_nil⟩⟩⟩⟩⟩⟩⟩⟩⟩⟩⟩⟩⟩⟩⟩⟩⟩⟩⟩⟩⟩⟩⟩⟩⟩⟩⟩⟩⟩⟩⟩⟩⟩⟩⟩⟩⟩⟩⟩⟩⟩⟩⟩
def k_TV_setWords : xCd := [
  (0, .iload_n 1, 1, .inl (0, 0)),
  (1, .iconst 2, 1, .inr (.inr (.inl (nI 2)))),
  (2, .if_icmp .lt 9, 3, .inl (11, 0)),
  (5, .iload_n 1, 1, .inl (0, 0)),
  (6, .bipush 7, 2, .inr (.inr (.inl (nI 7)))),
  (8, .if_icmp .le 5, 3, .inl (13, 0)),
  (11, .iconst (-1), 1, .inr (.inr (.inl (-1)))),
  (12, .ireturn, 1, .inl (0, 0)),
  (13, .aload_n 0, 1, .inl (0, 0)),
  (14, .getfield 19, 3, .inl (8, 1)),
  (17, .aload_n 0, 1, .inl (0, 0)),
  (18, .getfield 12, 3, .inl (8, 0)),
  (21, .invokevirtual 62, 3, .inr (.inl g_Hist_remember)),
  (24, .aload_n 0, 1, .inl (0, 0)),
  (25, .getfield 12, 3, .inl (8, 0)),
  (28, .getfield 66, 3, .inl (5, 0)),
  (31, .istore_n 2, 1, .inl (0, 0)),
  (32, .aload_n 0, 1, .inl (0, 0)),
  (33, .getfield 12, 3, .inl (8, 0)),
  (36, .iload_n 1, 1, .inl (0, 0)),
  (37, .invokevirtual 70, 3, .inr (.inl g_Sta_startWith)),
  (40, .iload_n 2, 1, .inl (0, 0)),
  (41, .ireturn, 1, .inl (0, 0))]
set_option maxRecDepth 100000 in
set_option maxHeartbeats 4000000 in
theorem ok_TV_setWords : xOK g_TV_setWords k_TV_setWords := ⟨by decide +kernel, by decide +kernel, List.forall_mem_cons.mpr ⟨trivial, List.forall_mem_cons.mpr ⟨trivial, List.forall_mem_cons.mpr ⟨trivial, List.forall_mem_cons.mpr ⟨trivial, List.forall_mem_cons.mpr ⟨trivial, List.forall_mem_cons.mpr ⟨trivial, List.forall_mem_cons.mpr ⟨trivial, List.forall_mem_cons.mpr ⟨trivial, List.forall_mem_cons.mpr ⟨trivial, List.forall_mem_cons.mpr ⟨fl_TV_19, List.forall_mem_cons.mpr ⟨trivial, List.forall_mem_cons.mpr ⟨fl_TV_12, List.forall_mem_cons.mpr ⟨⟨ml_TV_62, xmv_Hist_remember⟩, List.forall_mem_cons.mpr ⟨trivial, List.forall_mem_cons.mpr ⟨fl_TV_12, List.forall_mem_cons.mpr ⟨fl_TV_66, List.forall_mem_cons.mpr ⟨trivial, List.forall_mem_cons.mpr ⟨trivial, List.forall_mem_cons.mpr ⟨fl_TV_12, List.forall_mem_cons.mpr ⟨trivial, List.forall_mem_cons.mpr ⟨⟨ml_TV_70, xmv_Sta_startWith⟩, List.forall_mem_cons.mpr ⟨trivial, List.forall_mem_cons.mpr ⟨trivial, fun _ h => absurd h List.not_mem_nil⟩⟩⟩⟩⟩⟩⟩⟩⟩⟩⟩⟩⟩⟩⟩⟩⟩⟩⟩⟩⟩⟩⟩⟩
def k_TV_isRegister : xCd := [
  (0, .iload_n 0, 1, .inl (0, 0)),
  (1, .ifCond .lt 13, 3, .inl (14, 0)),
  (4, .iload_n 0, 1, .inl (0, 0)),
  (5, .bipush 6, 2, .inr (.inr (.inl (nI 6)))),
  (7, .if_icmp .ge 7, 3, .inl (14, 0)),
  (10, .iconst 1, 1, .inr (.inr (.inl (nI 1)))),
  (11, .goto 4, 3, .inl (15, 0)),
  (14, .iconst 0, 1, .inr (.inr (.inl (nI 0)))),
  (15, .ireturn, 1, .inl (0, 0))]
set_option maxRecDepth 100000 in
set_option maxHeartbeats 4000000 in
theorem ok_TV_isRegister : xOK g_TV_isRegister k_TV_isRegister := ⟨by decide +kernel, by decide +kernel, List.forall_mem_cons.mpr ⟨trivial, List.forall_mem_cons.mpr ⟨trivial, List.forall_mem_cons.mpr ⟨trivial, List.forall_mem_cons.mpr ⟨trivial, List.forall_mem_cons.mpr ⟨trivial, List.forall_mem_cons.mpr ⟨trivial, List.forall_mem_cons.mpr ⟨trivial, List.forall_mem_cons.mpr ⟨trivial, List.forall_mem_cons.mpr ⟨trivial, fun _ h => absurd h List.not_mem_nil⟩⟩⟩⟩⟩⟩⟩⟩⟩⟩
def k_TV_isLine : xCd := [
  (0, .iload_n 1, 1, .inl (0, 0)),
  (1, .ifCond .lt 18, 3, .inl (19, 0)),
  (4, .iload_n 1, 1, .inl (0, 0)),
  (5, .aload_n 0, 1, .inl (0, 0)),
  (6, .getfield 12, 3, .inl (8, 0)),
  (9, .getfield 66, 3, .inl (5, 0)),
  (12, .if_icmp .ge 7, 3, .inl (19, 0)),
  (15, .iconst 1, 1, .inr (.inr (.inl (nI 1)))),
  (16, .goto 4, 3, .inl (20, 0)),
  (19, .iconst 0, 1, .inr (.inr (.inl (nI 0)))),
  (20, .ireturn, 1, .inl (0, 0))]
set_option maxRecDepth 100000 in
set_option maxHeartbeats 4000000 in
theorem ok_TV_isLine : xOK g_TV_isLine k_TV_isLine := ⟨by decide +kernel, by decide +kernel, List.forall_mem_cons.mpr ⟨trivial, List.forall_mem_cons.mpr ⟨trivial, List.forall_mem_cons.mpr ⟨trivial, List.forall_mem_cons.mpr ⟨trivial, List.forall_mem_cons.mpr ⟨fl_TV_12, List.forall_mem_cons.mpr ⟨fl_TV_66, List.forall_mem_cons.mpr ⟨trivial, List.forall_mem_cons.mpr ⟨trivial, List.forall_mem_cons.mpr ⟨trivial, List.forall_mem_cons.mpr ⟨trivial, List.forall_mem_cons.mpr ⟨trivial, fun _ h => absurd h List.not_mem_nil⟩⟩⟩⟩⟩⟩⟩⟩⟩⟩⟩⟩
def k_TV_store : xCd := [
  (0, .aload_n 0, 1, .inl (0, 0)),
  (1, .getfield 19, 3, .inl (8, 1)),
  (4, .aload_n 0, 1, .inl (0, 0)),
  (5, .getfield 12, 3, .inl (8, 0)),
  (8, .invokevirtual 62, 3, .inr (.inl g_Hist_remember)),
  (11, .aload_n 0, 1, .inl (0, 0)),
  (12, .getfield 12, 3, .inl (8, 0)),
  (15, .getfield 133, 3, .inl (5, 2)),
  (18, .iload_n 1, 1, .inl (0, 0)),
  (19, .iload_n 2, 1, .inl (0, 0)),
  (20, .iastore, 1, .inl (0, 0)),
  (21, .iload_n 2, 1, .inl (0, 0)),
  (22, .aload_n 0, 1, .inl (0, 0)),
  (23, .getfield 12, 3, .inl (8, 0)),
  (26, .getfield 66, 3, .inl (5, 0)),
  (29, .invokestatic 201, 3, .inr (.inl g_Perm_number)),
  (32, .ireturn, 1, .inl (0, 0))]
set_option maxRecDepth 100000 in
set_option maxHeartbeats 4000000 in
theorem ok_TV_store : xOK g_TV_store k_TV_store := ⟨by decide +kernel, by decide +kernel, List.forall_mem_cons.mpr ⟨trivial, List.forall_mem_cons.mpr ⟨fl_TV_19, List.forall_mem_cons.mpr ⟨trivial, List.forall_mem_cons.mpr ⟨fl_TV_12, List.forall_mem_cons.mpr ⟨⟨ml_TV_62, xmv_Hist_remember⟩, List.forall_mem_cons.mpr ⟨trivial, List.forall_mem_cons.mpr ⟨fl_TV_12, List.forall_mem_cons.mpr ⟨fl_TV_133, List.forall_mem_cons.mpr ⟨trivial, List.forall_mem_cons.mpr ⟨trivial, List.forall_mem_cons.mpr ⟨trivial, List.forall_mem_cons.mpr ⟨trivial, List.forall_mem_cons.mpr ⟨trivial, List.forall_mem_cons.mpr ⟨fl_TV_12, List.forall_mem_cons.mpr ⟨fl_TV_66, List.forall_mem_cons.mpr ⟨⟨ml_TV_201, xms_Perm_number⟩, List.forall_mem_cons.mpr ⟨trivial, fun _ h => absurd h List.not_mem_nil⟩⟩⟩⟩⟩⟩⟩⟩⟩⟩⟩⟩⟩⟩⟩⟩⟩⟩
def k_TV_make : xCd := [
  (0, .iload_n 1, 1, .inl (0, 0)),
  (1, .invokestatic 116, 3, .inr (.inl g_TV_isRegister)),
  (4, .ifCond .eq 21, 3, .inl (25, 0)),
  (7, .iload_n 2, 1, .inl (0, 0)),
  (8, .ifCond .lt 17, 3, .inl (25, 0)),
  (11, .iload_n 2, 1, .inl (0, 0)),
  (12, .bipush 6, 2, .inr (.inr (.inl (nI 6)))),
  (14, .if_icmp .ge 11, 3, .inl (25, 0)),
  (17, .aload_n 0, 1, .inl (0, 0)),
  (18, .iload_n 3, 1, .inl (0, 0)),
  (19, .invokevirtual 74, 3, .inr (.inl g_TV_isLine)),
  (22, .ifCond .ne 5, 3, .inl (27, 0)),
  (25, .iconst (-1), 1, .inr (.inr (.inl (-1)))),
  (26, .ireturn, 1, .inl (0, 0)),
  (27, .aload_n 0, 1, .inl (0, 0)),
  (28, .iload_n 1, 1, .inl (0, 0)),
  (29, .iload_n 2, 1, .inl (0, 0)),
  (30, .iload_n 3, 1, .inl (0, 0)),
  (31, .aload_n 0, 1, .inl (0, 0)),
  (32, .getfield 12, 3, .inl (8, 0)),
  (35, .getfield 66, 3, .inl (5, 0)),
  (38, .invokestatic 128, 3, .inr (.inl g_Perm_ofKind)),
  (41, .invokevirtual 125, 3, .inr (.inl g_TV_store)),
  (44, .ireturn, 1, .inl (0, 0))]
set_option maxRecDepth 100000 in
set_option maxHeartbeats 4000000 in
theorem ok_TV_make : xOK g_TV_make k_TV_make := ⟨by decide +kernel, by decide +kernel, List.forall_mem_cons.mpr ⟨trivial, List.forall_mem_cons.mpr ⟨⟨ml_TV_116, xms_TV_isRegister⟩, List.forall_mem_cons.mpr ⟨trivial, List.forall_mem_cons.mpr ⟨trivial, List.forall_mem_cons.mpr ⟨trivial, List.forall_mem_cons.mpr ⟨trivial, List.forall_mem_cons.mpr ⟨trivial, List.forall_mem_cons.mpr ⟨trivial, List.forall_mem_cons.mpr ⟨trivial, List.forall_mem_cons.mpr ⟨trivial, List.forall_mem_cons.mpr ⟨⟨ml_TV_74, xmv_TV_isLine⟩, List.forall_mem_cons.mpr ⟨trivial, List.forall_mem_cons.mpr ⟨trivial, List.forall_mem_cons.mpr ⟨trivial, List.forall_mem_cons.mpr ⟨trivial, List.forall_mem_cons.mpr ⟨trivial, List.forall_mem_cons.mpr ⟨trivial, List.forall_mem_cons.mpr ⟨trivial, List.forall_mem_cons.mpr ⟨trivial, List.forall_mem_cons.mpr ⟨fl_TV_12, List.forall_mem_cons.mpr ⟨fl_TV_66, List.forall_mem_cons.mpr ⟨⟨ml_TV_128, xms_Perm_ofKind⟩, List.forall_mem_cons.mpr ⟨⟨ml_TV_125, xmv_TV_store⟩, List.forall_mem_cons.mpr ⟨trivial, fun _ h => absurd h List.not_mem_nil⟩⟩⟩⟩⟩⟩⟩⟩⟩⟩⟩⟩⟩⟩⟩⟩⟩⟩⟩⟩⟩⟩⟩⟩⟩
def k_TV_product : xCd := [
  (0, .iload_n 1, 1, .inl (0, 0)),
  (1, .invokestatic 116, 3, .inr (.inl g_TV_isRegister)),
  (4, .ifCond .eq 17, 3, .inl (21, 0)),
  (7, .iload_n 2, 1, .inl (0, 0)),
  (8, .invokestatic 116, 3, .inr (.inl g_TV_isRegister)),
  (11, .ifCond .eq 10, 3, .inl (21, 0)),
  (14, .iload_n 3, 1, .inl (0, 0)),
  (15, .invokestatic 116, 3, .inr (.inl g_TV_isRegister)),
  (18, .ifCond .ne 5, 3, .inl (23, 0)),
  (21, .iconst (-1), 1, .inr (.inr (.inl (-1)))),
  (22, .ireturn, 1, .inl (0, 0)),
  (23, .aload_n 0, 1, .inl (0, 0)),
  (24, .iload_n 3, 1, .inl (0, 0)),
  (25, .aload_n 0, 1, .inl (0, 0)),
  (26, .getfield 12, 3, .inl (8, 0)),
  (29, .getfield 133, 3, .inl (5, 2)),
  (32, .iload_n 1, 1, .inl (0, 0)),
  (33, .iaload, 1, .inl (0, 0)),
  (34, .aload_n 0, 1, .inl (0, 0)),
  (35, .getfield 12, 3, .inl (8, 0)),
  (38, .getfield 133, 3, .inl (5, 2)),
  (41, .iload_n 2, 1, .inl (0, 0)),
  (42, .iaload, 1, .inl (0, 0)),
  (43, .aload_n 0, 1, .inl (0, 0)),
  (44, .getfield 12, 3, .inl (8, 0)),
  (47, .getfield 66, 3, .inl (5, 0)),
  (50, .invokestatic 136, 3, .inr (.inl g_Row_turned)),
  (53, .invokevirtual 125, 3, .inr (.inl g_TV_store)),
  (56, .ireturn, 1, .inl (0, 0))]
set_option maxRecDepth 100000 in
set_option maxHeartbeats 4000000 in
theorem ok_TV_product : xOK g_TV_product k_TV_product := ⟨by decide +kernel, by decide +kernel, List.forall_mem_cons.mpr ⟨trivial, List.forall_mem_cons.mpr ⟨⟨ml_TV_116, xms_TV_isRegister⟩, List.forall_mem_cons.mpr ⟨trivial, List.forall_mem_cons.mpr ⟨trivial, List.forall_mem_cons.mpr ⟨⟨ml_TV_116, xms_TV_isRegister⟩, List.forall_mem_cons.mpr ⟨trivial, List.forall_mem_cons.mpr ⟨trivial, List.forall_mem_cons.mpr ⟨⟨ml_TV_116, xms_TV_isRegister⟩, List.forall_mem_cons.mpr ⟨trivial, List.forall_mem_cons.mpr ⟨trivial, List.forall_mem_cons.mpr ⟨trivial, List.forall_mem_cons.mpr ⟨trivial, List.forall_mem_cons.mpr ⟨trivial, List.forall_mem_cons.mpr ⟨trivial, List.forall_mem_cons.mpr ⟨fl_TV_12, List.forall_mem_cons.mpr ⟨fl_TV_133, List.forall_mem_cons.mpr ⟨trivial, List.forall_mem_cons.mpr ⟨trivial, List.forall_mem_cons.mpr ⟨trivial, List.forall_mem_cons.mpr ⟨fl_TV_12, List.forall_mem_cons.mpr ⟨fl_TV_133, List.forall_mem_cons.mpr ⟨trivial, List.forall_mem_cons.mpr ⟨trivial, List.forall_mem_cons.mpr ⟨trivial, List.forall_mem_cons.mpr ⟨fl_TV_12, List.forall_mem_cons.mpr ⟨fl_TV_66, List.forall_mem_cons.mpr ⟨⟨ml_TV_136, xms_Row_turned⟩, List.forall_mem_cons.mpr ⟨⟨ml_TV_125, xmv_TV_store⟩, List.forall_mem_cons.mpr ⟨trivial, fun _ h => absurd h List.not_mem_nil⟩⟩⟩⟩⟩⟩⟩⟩⟩⟩⟩⟩⟩⟩⟩⟩⟩⟩⟩⟩⟩⟩⟩⟩⟩⟩⟩⟩⟩⟩
def k_TV_power : xCd := [
  (0, .iload_n 1, 1, .inl (0, 0)),
  (1, .invokestatic 116, 3, .inr (.inl g_TV_isRegister)),
  (4, .ifCond .eq 22, 3, .inl (26, 0)),
  (7, .iload_n 2, 1, .inl (0, 0)),
  (8, .ldc 139, 2, .inr (.inr (.inl (-1000000)))),
  (10, .if_icmp .lt 16, 3, .inl (26, 0)),
  (13, .iload_n 2, 1, .inl (0, 0)),
  (14, .ldc 140, 2, .inr (.inr (.inl (nI 1000000)))),
  (16, .if_icmp .gt 10, 3, .inl (26, 0)),
  (19, .iload_n 3, 1, .inl (0, 0)),
  (20, .invokestatic 116, 3, .inr (.inl g_TV_isRegister)),
  (23, .ifCond .ne 5, 3, .inl (28, 0)),
  (26, .iconst (-1), 1, .inr (.inr (.inl (-1)))),
  (27, .ireturn, 1, .inl (0, 0)),
  (28, .aload_n 0, 1, .inl (0, 0)),
  (29, .getfield 12, 3, .inl (8, 0)),
  (32, .getfield 133, 3, .inl (5, 2)),
  (35, .iload_n 1, 1, .inl (0, 0)),
  (36, .iaload, 1, .inl (0, 0)),
  (37, .istore 4, 2, .inl (0, 0)),
  (39, .iload_n 2, 1, .inl (0, 0)),
  (40, .ifCond .ge 18, 3, .inl (58, 0)),
  (43, .iload 4, 2, .inl (0, 0)),
  (45, .aload_n 0, 1, .inl (0, 0)),
  (46, .getfield 12, 3, .inl (8, 0)),
  (49, .getfield 66, 3, .inl (5, 0)),
  (52, .invokestatic 141, 3, .inr (.inl g_Perm_inverse)),
  (55, .goto 5, 3, .inl (60, 0)),
  (58, .iload 4, 2, .inl (0, 0)),
  (60, .istore 5, 2, .inl (0, 0)),
  (62, .aload_n 0, 1, .inl (0, 0)),
  (63, .iload_n 3, 1, .inl (0, 0)),
  (64, .iload 5, 2, .inl (0, 0)),
  (66, .iload_n 2, 1, .inl (0, 0)),
  (67, .invokestatic 144, 3, .inr (.inr (.inr (.inr (2, []))))),
  (70, .aload_n 0, 1, .inl (0, 0)),
  (71, .getfield 12, 3, .inl (8, 0)),
  (74, .getfield 66, 3, .inl (5, 0)),
  (77, .invokestatic 150, 3, .inr (.inl g_Perm_repeated)),
  (80, .invokevirtual 125, 3, .inr (.inl g_TV_store)),
  (83, .ireturn, 1, .inl (0, 0))]
set_option maxRecDepth 100000 in
set_option maxHeartbeats 4000000 in
theorem ok_TV_power : xOK g_TV_power k_TV_power := ⟨by decide +kernel, by decide +kernel, List.forall_mem_cons.mpr ⟨trivial, List.forall_mem_cons.mpr ⟨⟨ml_TV_116, xms_TV_isRegister⟩, List.forall_mem_cons.mpr ⟨trivial, List.forall_mem_cons.mpr ⟨trivial, List.forall_mem_cons.mpr ⟨lw_gm 348 rfl rfl, List.forall_mem_cons.mpr ⟨trivial, List.forall_mem_cons.mpr ⟨trivial, List.forall_mem_cons.mpr ⟨lw_gm 349 rfl rfl, List.forall_mem_cons.mpr ⟨trivial, List.forall_mem_cons.mpr ⟨trivial, List.forall_mem_cons.mpr ⟨⟨ml_TV_116, xms_TV_isRegister⟩, List.forall_mem_cons.mpr ⟨trivial, List.forall_mem_cons.mpr ⟨trivial, List.forall_mem_cons.mpr ⟨trivial, List.forall_mem_cons.mpr ⟨trivial, List.forall_mem_cons.mpr ⟨fl_TV_12, List.forall_mem_cons.mpr ⟨fl_TV_133, List.forall_mem_cons.mpr ⟨trivial, List.forall_mem_cons.mpr ⟨trivial, List.forall_mem_cons.mpr ⟨trivial, List.forall_mem_cons.mpr ⟨trivial, List.forall_mem_cons.mpr ⟨trivial, List.forall_mem_cons.mpr ⟨trivial, List.forall_mem_cons.mpr ⟨trivial, List.forall_mem_cons.mpr ⟨fl_TV_12, List.forall_mem_cons.mpr ⟨fl_TV_66, List.forall_mem_cons.mpr ⟨⟨ml_TV_141, xms_Perm_inverse⟩, List.forall_mem_cons.mpr ⟨trivial, List.forall_mem_cons.mpr ⟨trivial, List.forall_mem_cons.mpr ⟨trivial, List.forall_mem_cons.mpr ⟨trivial, List.forall_mem_cons.mpr ⟨trivial, List.forall_mem_cons.mpr ⟨trivial, List.forall_mem_cons.mpr ⟨trivial, List.forall_mem_cons.mpr ⟨⟨lw_gm 353 rfl rfl, lw_gm 354 rfl rfl, lw_gm 27 rfl rfl, lw_gm 355 rfl rfl⟩, List.forall_mem_cons.mpr ⟨trivial, List.forall_mem_cons.mpr ⟨fl_TV_12, List.forall_mem_cons.mpr ⟨fl_TV_66, List.forall_mem_cons.mpr ⟨⟨ml_TV_150, xms_Perm_repeated⟩, List.forall_mem_cons.mpr ⟨⟨ml_TV_125, xmv_TV_store⟩, List.forall_mem_cons.mpr ⟨trivial, fun _ h => absurd h List.not_mem_nil⟩⟩⟩⟩⟩⟩⟩⟩⟩⟩⟩⟩⟩⟩⟩⟩⟩⟩⟩⟩⟩⟩⟩⟩⟩⟩⟩⟩⟩⟩⟩⟩⟩⟩⟩⟩⟩⟩⟩⟩⟩⟩
def k_TV_unrank : xCd := [
  (0, .iload_n 1, 1, .inl (0, 0)),
  (1, .invokestatic 116, 3, .inr (.inl g_TV_isRegister)),
  (4, .ifCond .eq 21, 3, .inl (25, 0)),
  (7, .iload_n 2, 1, .inl (0, 0)),
  (8, .ifCond .lt 17, 3, .inl (25, 0)),
  (11, .iload_n 2, 1, .inl (0, 0)),
  (12, .aload_n 0, 1, .inl (0, 0)),
  (13, .getfield 12, 3, .inl (8, 0)),
  (16, .getfield 66, 3, .inl (5, 0)),
  (19, .invokestatic 153, 3, .inr (.inl g_Perm_count)),
  (22, .if_icmp .lt 5, 3, .inl (27, 0)),
  (25, .iconst (-1), 1, .inr (.inr (.inl (-1)))),
  (26, .ireturn, 1, .inl (0, 0)),
  (27, .iload_n 2, 1, .inl (0, 0)),
  (28, .aload_n 0, 1, .inl (0, 0)),
  (29, .getfield 12, 3, .inl (8, 0)),
  (32, .getfield 66, 3, .inl (5, 0)),
  (35, .invokestatic 155, 3, .inr (.inl g_Perm_numbered)),
  (38, .istore_n 3, 1, .inl (0, 0)),
  (39, .aload_n 0, 1, .inl (0, 0)),
  (40, .iload_n 1, 1, .inl (0, 0)),
  (41, .iload_n 3, 1, .inl (0, 0)),
  (42, .invokevirtual 125, 3, .inr (.inl g_TV_store)),
  (45, .pop, 1, .inl (0, 0)),
  (46, .iload_n 3, 1, .inl (0, 0)),
  (47, .aload_n 0, 1, .inl (0, 0)),
  (48, .getfield 12, 3, .inl (8, 0)),
  (51, .getfield 66, 3, .inl (5, 0)),
  (54, .invokestatic 158, 3, .inr (.inl g_Perm_order)),
  (57, .ireturn, 1, .inl (0, 0))]
set_option maxRecDepth 100000 in
set_option maxHeartbeats 4000000 in
theorem ok_TV_unrank : xOK g_TV_unrank k_TV_unrank := ⟨by decide +kernel, by decide +kernel, List.forall_mem_cons.mpr ⟨trivial, List.forall_mem_cons.mpr ⟨⟨ml_TV_116, xms_TV_isRegister⟩, List.forall_mem_cons.mpr ⟨trivial, List.forall_mem_cons.mpr ⟨trivial, List.forall_mem_cons.mpr ⟨trivial, List.forall_mem_cons.mpr ⟨trivial, List.forall_mem_cons.mpr ⟨trivial, List.forall_mem_cons.mpr ⟨fl_TV_12, List.forall_mem_cons.mpr ⟨fl_TV_66, List.forall_mem_cons.mpr ⟨⟨ml_TV_153, xms_Perm_count⟩, List.forall_mem_cons.mpr ⟨trivial, List.forall_mem_cons.mpr ⟨trivial, List.forall_mem_cons.mpr ⟨trivial, List.forall_mem_cons.mpr ⟨trivial, List.forall_mem_cons.mpr ⟨trivial, List.forall_mem_cons.mpr ⟨fl_TV_12, List.forall_mem_cons.mpr ⟨fl_TV_66, List.forall_mem_cons.mpr ⟨⟨ml_TV_155, xms_Perm_numbered⟩, List.forall_mem_cons.mpr ⟨trivial, List.forall_mem_cons.mpr ⟨trivial, List.forall_mem_cons.mpr ⟨trivial, List.forall_mem_cons.mpr ⟨trivial, List.forall_mem_cons.mpr ⟨⟨ml_TV_125, xmv_TV_store⟩, List.forall_mem_cons.mpr ⟨trivial, List.forall_mem_cons.mpr ⟨trivial, List.forall_mem_cons.mpr ⟨trivial, List.forall_mem_cons.mpr ⟨fl_TV_12, List.forall_mem_cons.mpr ⟨fl_TV_66, List.forall_mem_cons.mpr ⟨⟨ml_TV_158, xms_Perm_order⟩, List.forall_mem_cons.mpr ⟨trivial, fun _ h => absurd h List.not_mem_nil⟩⟩⟩⟩⟩⟩⟩⟩⟩⟩⟩⟩⟩⟩⟩⟩⟩⟩⟩⟩⟩⟩⟩⟩⟩⟩⟩⟩⟩⟩⟩
def k_TV_root : xCd := [
  (0, .iload_n 1, 1, .inl (0, 0)),
  (1, .invokestatic 116, 3, .inr (.inl g_TV_isRegister)),
  (4, .ifCond .eq 21, 3, .inl (25, 0)),
  (7, .iload_n 2, 1, .inl (0, 0)),
  (8, .iconst 1, 1, .inr (.inr (.inl (nI 1)))),
  (9, .if_icmp .lt 16, 3, .inl (25, 0)),
  (12, .iload_n 2, 1, .inl (0, 0)),
  (13, .bipush 12, 2, .inr (.inr (.inl (nI 12)))),
  (15, .if_icmp .gt 10, 3, .inl (25, 0)),
  (18, .iload_n 3, 1, .inl (0, 0)),
  (19, .invokestatic 116, 3, .inr (.inl g_TV_isRegister)),
  (22, .ifCond .ne 5, 3, .inl (27, 0)),
  (25, .iconst (-1), 1, .inr (.inr (.inl (-1)))),
  (26, .ireturn, 1, .inl (0, 0)),
  (27, .aload_n 0, 1, .inl (0, 0)),
  (28, .getfield 12, 3, .inl (8, 0)),
  (31, .getfield 133, 3, .inl (5, 2)),
  (34, .iload_n 1, 1, .inl (0, 0)),
  (35, .iaload, 1, .inl (0, 0)),
  (36, .iload_n 2, 1, .inl (0, 0)),
  (37, .aload_n 0, 1, .inl (0, 0)),
  (38, .getfield 12, 3, .inl (8, 0)),
  (41, .getfield 66, 3, .inl (5, 0)),
  (44, .invokestatic 161, 3, .inr (.inl g_Perm_firstRoot)),
  (47, .istore 4, 2, .inl (0, 0)),
  (49, .iload 4, 2, .inl (0, 0)),
  (51, .iconst (-1), 1, .inr (.inr (.inl (-1)))),
  (52, .if_icmp .ne 17, 3, .inl (69, 0)),
  (55, .aload_n 0, 1, .inl (0, 0)),
  (56, .getfield 19, 3, .inl (8, 1)),
  (59, .aload_n 0, 1, .inl (0, 0)),
  (60, .getfield 12, 3, .inl (8, 0)),
  (63, .invokevirtual 62, 3, .inr (.inl g_Hist_remember)),
  (66, .bipush (-9), 2, .inr (.inr (.inl (-9)))),
  (68, .ireturn, 1, .inl (0, 0)),
  (69, .aload_n 0, 1, .inl (0, 0)),
  (70, .iload_n 3, 1, .inl (0, 0)),
  (71, .iload 4, 2, .inl (0, 0)),
  (73, .invokevirtual 125, 3, .inr (.inl g_TV_store)),
  (76, .ireturn, 1, .inl (0, 0))]
set_option maxRecDepth 100000 in
set_option maxHeartbeats 4000000 in
theorem ok_TV_root : xOK g_TV_root k_TV_root := ⟨by decide +kernel, by decide +kernel, List.forall_mem_cons.mpr ⟨trivial, List.forall_mem_cons.mpr ⟨⟨ml_TV_116, xms_TV_isRegister⟩, List.forall_mem_cons.mpr ⟨trivial, List.forall_mem_cons.mpr ⟨trivial, List.forall_mem_cons.mpr ⟨trivial, List.forall_mem_cons.mpr ⟨trivial, List.forall_mem_cons.mpr ⟨trivial, List.forall_mem_cons.mpr ⟨trivial, List.forall_mem_cons.mpr ⟨trivial, List.forall_mem_cons.mpr ⟨trivial, List.forall_mem_cons.mpr ⟨⟨ml_TV_116, xms_TV_isRegister⟩, List.forall_mem_cons.mpr ⟨trivial, List.forall_mem_cons.mpr ⟨trivial, List.forall_mem_cons.mpr ⟨trivial, List.forall_mem_cons.mpr ⟨trivial, List.forall_mem_cons.mpr ⟨fl_TV_12, List.forall_mem_cons.mpr ⟨fl_TV_133, List.forall_mem_cons.mpr ⟨trivial, List.forall_mem_cons.mpr ⟨trivial, List.forall_mem_cons.mpr ⟨trivial, List.forall_mem_cons.mpr ⟨trivial, List.forall_mem_cons.mpr ⟨fl_TV_12, List.forall_mem_cons.mpr ⟨fl_TV_66, List.forall_mem_cons.mpr ⟨⟨ml_TV_161, xms_Perm_firstRoot⟩, List.forall_mem_cons.mpr ⟨trivial, List.forall_mem_cons.mpr ⟨trivial, List.forall_mem_cons.mpr ⟨trivial, List.forall_mem_cons.mpr ⟨trivial, List.forall_mem_cons.mpr ⟨trivial, List.forall_mem_cons.mpr ⟨fl_TV_19, List.forall_mem_cons.mpr ⟨trivial, List.forall_mem_cons.mpr ⟨fl_TV_12, List.forall_mem_cons.mpr ⟨⟨ml_TV_62, xmv_Hist_remember⟩, List.forall_mem_cons.mpr ⟨trivial, List.forall_mem_cons.mpr ⟨trivial, List.forall_mem_cons.mpr ⟨trivial, List.forall_mem_cons.mpr ⟨trivial, List.forall_mem_cons.mpr ⟨trivial, List.forall_mem_cons.mpr ⟨⟨ml_TV_125, xmv_TV_store⟩, List.forall_mem_cons.mpr ⟨trivial, fun _ h => absurd h List.not_mem_nil⟩⟩⟩⟩⟩⟩⟩⟩⟩⟩⟩⟩⟩⟩⟩⟩⟩⟩⟩⟩⟩⟩⟩⟩⟩⟩⟩⟩⟩⟩⟩⟩⟩⟩⟩⟩⟩⟩⟩⟩⟩
def k_TV_turn : xCd := [
  (0, .iload_n 1, 1, .inl (0, 0)),
  (1, .invokestatic 116, 3, .inr (.inl g_TV_isRegister)),
  (4, .ifCond .eq 13, 3, .inl (17, 0)),
  (7, .iload_n 2, 1, .inl (0, 0)),
  (8, .ifCond .lt 9, 3, .inl (17, 0)),
  (11, .iload_n 2, 1, .inl (0, 0)),
  (12, .bipush 7, 2, .inr (.inr (.inl (nI 7)))),
  (14, .if_icmp .lt 5, 3, .inl (19, 0)),
  (17, .iconst (-1), 1, .inr (.inr (.inl (-1)))),
  (18, .ireturn, 1, .inl (0, 0)),
  (19, .aload_n 0, 1, .inl (0, 0)),
  (20, .getfield 12, 3, .inl (8, 0)),
  (23, .getfield 133, 3, .inl (5, 2)),
  (26, .iload_n 1, 1, .inl (0, 0)),
  (27, .iaload, 1, .inl (0, 0)),
  (28, .iload_n 2, 1, .inl (0, 0)),
  (29, .aload_n 0, 1, .inl (0, 0)),
  (30, .getfield 12, 3, .inl (8, 0)),
  (33, .getfield 66, 3, .inl (5, 0)),
  (36, .invokestatic 164, 3, .inr (.inl g_Perm_property)),
  (39, .ireturn, 1, .inl (0, 0))]
set_option maxRecDepth 100000 in
set_option maxHeartbeats 4000000 in
theorem ok_TV_turn : xOK g_TV_turn k_TV_turn := ⟨by decide +kernel, by decide +kernel, List.forall_mem_cons.mpr ⟨trivial, List.forall_mem_cons.mpr ⟨⟨ml_TV_116, xms_TV_isRegister⟩, List.forall_mem_cons.mpr ⟨trivial, List.forall_mem_cons.mpr ⟨trivial, List.forall_mem_cons.mpr ⟨trivial, List.forall_mem_cons.mpr ⟨trivial, List.forall_mem_cons.mpr ⟨trivial, List.forall_mem_cons.mpr ⟨trivial, List.forall_mem_cons.mpr ⟨trivial, List.forall_mem_cons.mpr ⟨trivial, List.forall_mem_cons.mpr ⟨trivial, List.forall_mem_cons.mpr ⟨fl_TV_12, List.forall_mem_cons.mpr ⟨fl_TV_133, List.forall_mem_cons.mpr ⟨trivial, List.forall_mem_cons.mpr ⟨trivial, List.forall_mem_cons.mpr ⟨trivial, List.forall_mem_cons.mpr ⟨trivial, List.forall_mem_cons.mpr ⟨fl_TV_12, List.forall_mem_cons.mpr ⟨fl_TV_66, List.forall_mem_cons.mpr ⟨⟨ml_TV_164, xms_Perm_property⟩, List.forall_mem_cons.mpr ⟨trivial, fun _ h => absurd h List.not_mem_nil⟩⟩⟩⟩⟩⟩⟩⟩⟩⟩⟩⟩⟩⟩⟩⟩⟩⟩⟩⟩⟩⟩
def k_TV_isSetOfRegisters : xCd := [
  (0, .iload_n 0, 1, .inl (0, 0)),
  (1, .ifCond .lt 13, 3, .inl (14, 0)),
  (4, .iload_n 0, 1, .inl (0, 0)),
  (5, .bipush 64, 2, .inr (.inr (.inl (nI 64)))),
  (7, .if_icmp .ge 7, 3, .inl (14, 0)),
  (10, .iconst 1, 1, .inr (.inr (.inl (nI 1)))),
  (11, .goto 4, 3, .inl (15, 0)),
  (14, .iconst 0, 1, .inr (.inr (.inl (nI 0)))),
  (15, .ireturn, 1, .inl (0, 0))]
set_option maxRecDepth 100000 in
set_option maxHeartbeats 4000000 in
theorem ok_TV_isSetOfRegisters : xOK g_TV_isSetOfRegisters k_TV_isSetOfRegisters := ⟨by decide +kernel, by decide +kernel, List.forall_mem_cons.mpr ⟨trivial, List.forall_mem_cons.mpr ⟨trivial, List.forall_mem_cons.mpr ⟨trivial, List.forall_mem_cons.mpr ⟨trivial, List.forall_mem_cons.mpr ⟨trivial, List.forall_mem_cons.mpr ⟨trivial, List.forall_mem_cons.mpr ⟨trivial, List.forall_mem_cons.mpr ⟨trivial, List.forall_mem_cons.mpr ⟨trivial, fun _ h => absurd h List.not_mem_nil⟩⟩⟩⟩⟩⟩⟩⟩⟩⟩
def k_TV_generated : xCd := [
  (0, .iload_n 1, 1, .inl (0, 0)),
  (1, .invokestatic 167, 3, .inr (.inl g_TV_isSetOfRegisters)),
  (4, .ifCond .ne 5, 3, .inl (9, 0)),
  (7, .iconst (-1), 1, .inr (.inr (.inl (-1)))),
  (8, .ireturn, 1, .inl (0, 0)),
  (9, .aload_n 0, 1, .inl (0, 0)),
  (10, .getfield 47, 3, .inl (8, 5)),
  (13, .aload_n 0, 1, .inl (0, 0)),
  (14, .getfield 12, 3, .inl (8, 0)),
  (17, .iload_n 1, 1, .inl (0, 0)),
  (18, .invokevirtual 170, 3, .inr (.inl g_Sea_spread)),
  (21, .aload_n 0, 1, .inl (0, 0)),
  (22, .getfield 47, 3, .inl (8, 5)),
  (25, .getfield 174, 3, .inl (4, 0)),
  (28, .ireturn, 1, .inl (0, 0))]
set_option maxRecDepth 100000 in
set_option maxHeartbeats 4000000 in
theorem ok_TV_generated : xOK g_TV_generated k_TV_generated := ⟨by decide +kernel, by decide +kernel, List.forall_mem_cons.mpr ⟨trivial, List.forall_mem_cons.mpr ⟨⟨ml_TV_167, xms_TV_isSetOfRegisters⟩, List.forall_mem_cons.mpr ⟨trivial, List.forall_mem_cons.mpr ⟨trivial, List.forall_mem_cons.mpr ⟨trivial, List.forall_mem_cons.mpr ⟨trivial, List.forall_mem_cons.mpr ⟨fl_TV_47, List.forall_mem_cons.mpr ⟨trivial, List.forall_mem_cons.mpr ⟨fl_TV_12, List.forall_mem_cons.mpr ⟨trivial, List.forall_mem_cons.mpr ⟨⟨ml_TV_170, xmv_Sea_spread⟩, List.forall_mem_cons.mpr ⟨trivial, List.forall_mem_cons.mpr ⟨fl_TV_47, List.forall_mem_cons.mpr ⟨fl_TV_174, List.forall_mem_cons.mpr ⟨trivial, fun _ h => absurd h List.not_mem_nil⟩⟩⟩⟩⟩⟩⟩⟩⟩⟩⟩⟩⟩⟩⟩⟩
def k_TV_reach : xCd := [
  (0, .iload_n 1, 1, .inl (0, 0)),
  (1, .invokestatic 167, 3, .inr (.inl g_TV_isSetOfRegisters)),
  (4, .ifCond .eq 10, 3, .inl (14, 0)),
  (7, .iload_n 2, 1, .inl (0, 0)),
  (8, .invokestatic 116, 3, .inr (.inl g_TV_isRegister)),
  (11, .ifCond .ne 5, 3, .inl (16, 0)),
  (14, .iconst (-1), 1, .inr (.inr (.inl (-1)))),
  (15, .ireturn, 1, .inl (0, 0)),
  (16, .aload_n 0, 1, .inl (0, 0)),
  (17, .getfield 47, 3, .inl (8, 5)),
  (20, .aload_n 0, 1, .inl (0, 0)),
  (21, .getfield 12, 3, .inl (8, 0)),
  (24, .iload_n 1, 1, .inl (0, 0)),
  (25, .invokevirtual 170, 3, .inr (.inl g_Sea_spread)),
  (28, .aload_n 0, 1, .inl (0, 0)),
  (29, .getfield 47, 3, .inl (8, 5)),
  (32, .aload_n 0, 1, .inl (0, 0)),
  (33, .getfield 12, 3, .inl (8, 0)),
  (36, .getfield 133, 3, .inl (5, 2)),
  (39, .iload_n 2, 1, .inl (0, 0)),
  (40, .iaload, 1, .inl (0, 0)),
  (41, .invokevirtual 175, 3, .inr (.inl g_Sea_depthOf)),
  (44, .istore_n 3, 1, .inl (0, 0)),
  (45, .iload_n 3, 1, .inl (0, 0)),
  (46, .iconst (-1), 1, .inr (.inr (.inl (-1)))),
  (47, .if_icmp .ne 8, 3, .inl (55, 0)),
  (50, .bipush (-9), 2, .inr (.inr (.inl (-9)))),
  (52, .goto 4, 3, .inl (56, 0)),
  (55, .iload_n 3, 1, .inl (0, 0)),
  (56, .ireturn, 1, .inl (0, 0))]
set_option maxRecDepth 100000 in
set_option maxHeartbeats 4000000 in
theorem ok_TV_reach : xOK g_TV_reach k_TV_reach := ⟨by decide +kernel, by decide +kernel, List.forall_mem_cons.mpr ⟨trivial, List.forall_mem_cons.mpr ⟨⟨ml_TV_167, xms_TV_isSetOfRegisters⟩, List.forall_mem_cons.mpr ⟨trivial, List.forall_mem_cons.mpr ⟨trivial, List.forall_mem_cons.mpr ⟨⟨ml_TV_116, xms_TV_isRegister⟩, List.forall_mem_cons.mpr ⟨trivial, List.forall_mem_cons.mpr ⟨trivial, List.forall_mem_cons.mpr ⟨trivial, List.forall_mem_cons.mpr ⟨trivial, List.forall_mem_cons.mpr ⟨fl_TV_47, List.forall_mem_cons.mpr ⟨trivial, List.forall_mem_cons.mpr ⟨fl_TV_12, List.forall_mem_cons.mpr ⟨trivial, List.forall_mem_cons.mpr ⟨⟨ml_TV_170, xmv_Sea_spread⟩, List.forall_mem_cons.mpr ⟨trivial, List.forall_mem_cons.mpr ⟨fl_TV_47, List.forall_mem_cons.mpr ⟨trivial, List.forall_mem_cons.mpr ⟨fl_TV_12, List.forall_mem_cons.mpr ⟨fl_TV_133, List.forall_mem_cons.mpr ⟨trivial, List.forall_mem_cons.mpr ⟨trivial, List.forall_mem_cons.mpr ⟨⟨ml_TV_175, xmv_Sea_depthOf⟩, List.forall_mem_cons.mpr ⟨trivial, List.forall_mem_cons.mpr ⟨trivial, List.forall_mem_cons.mpr ⟨trivial, List.forall_mem_cons.mpr ⟨trivial, List.forall_mem_cons.mpr ⟨trivial, List.forall_mem_cons.mpr ⟨trivial, List.forall_mem_cons.mpr ⟨trivial, List.forall_mem_cons.mpr ⟨trivial, fun _ h => absurd h List.not_mem_nil⟩⟩⟩⟩⟩⟩⟩⟩⟩⟩⟩⟩⟩⟩⟩⟩⟩⟩⟩⟩⟩⟩⟩⟩⟩⟩⟩⟩⟩⟩⟩
def k_TV_factor : xCd := [
  (0, .iload_n 1, 1, .inl (0, 0)),
  (1, .invokestatic 167, 3, .inr (.inl g_TV_isSetOfRegisters)),
  (4, .ifCond .eq 14, 3, .inl (18, 0)),
  (7, .iload_n 2, 1, .inl (0, 0)),
  (8, .invokestatic 116, 3, .inr (.inl g_TV_isRegister)),
  (11, .ifCond .eq 7, 3, .inl (18, 0)),
  (14, .iload_n 3, 1, .inl (0, 0)),
  (15, .ifCond .ge 5, 3, .inl (20, 0)),
  (18, .iconst (-1), 1, .inr (.inr (.inl (-1)))),
  (19, .ireturn, 1, .inl (0, 0)),
  (20, .aload_n 0, 1, .inl (0, 0)),
  (21, .getfield 47, 3, .inl (8, 5)),
  (24, .aload_n 0, 1, .inl (0, 0)),
  (25, .getfield 12, 3, .inl (8, 0)),
  (28, .iload_n 1, 1, .inl (0, 0)),
  (29, .invokevirtual 170, 3, .inr (.inl g_Sea_spread)),
  (32, .aload_n 0, 1, .inl (0, 0)),
  (33, .getfield 12, 3, .inl (8, 0)),
  (36, .getfield 133, 3, .inl (5, 2)),
  (39, .iload_n 2, 1, .inl (0, 0)),
  (40, .iaload, 1, .inl (0, 0)),
  (41, .istore 4, 2, .inl (0, 0)),
  (43, .iload_n 3, 1, .inl (0, 0)),
  (44, .aload_n 0, 1, .inl (0, 0)),
  (45, .getfield 47, 3, .inl (8, 5)),
  (48, .iload 4, 2, .inl (0, 0)),
  (50, .invokevirtual 175, 3, .inr (.inl g_Sea_depthOf)),
  (53, .if_icmp .ge 16, 3, .inl (69, 0)),
  (56, .aload_n 0, 1, .inl (0, 0)),
  (57, .getfield 47, 3, .inl (8, 5)),
  (60, .iload 4, 2, .inl (0, 0)),
  (62, .iload_n 3, 1, .inl (0, 0)),
  (63, .invokevirtual 178, 3, .inr (.inl g_Sea_factorAt)),
  (66, .goto 5, 3, .inl (71, 0)),
  (69, .bipush (-9), 2, .inr (.inr (.inl (-9)))),
  (71, .ireturn, 1, .inl (0, 0))]
set_option maxRecDepth 100000 in
set_option maxHeartbeats 4000000 in
theorem ok_TV_factor : xOK g_TV_factor k_TV_factor := ⟨by decide +kernel, by decide +kernel, List.forall_mem_cons.mpr ⟨trivial, List.forall_mem_cons.mpr ⟨⟨ml_TV_167, xms_TV_isSetOfRegisters⟩, List.forall_mem_cons.mpr ⟨trivial, List.forall_mem_cons.mpr ⟨trivial, List.forall_mem_cons.mpr ⟨⟨ml_TV_116, xms_TV_isRegister⟩, List.forall_mem_cons.mpr ⟨trivial, List.forall_mem_cons.mpr ⟨trivial, List.forall_mem_cons.mpr ⟨trivial, List.forall_mem_cons.mpr ⟨trivial, List.forall_mem_cons.mpr ⟨trivial, List.forall_mem_cons.mpr ⟨trivial, List.forall_mem_cons.mpr ⟨fl_TV_47, List.forall_mem_cons.mpr ⟨trivial, List.forall_mem_cons.mpr ⟨fl_TV_12, List.forall_mem_cons.mpr ⟨trivial, List.forall_mem_cons.mpr ⟨⟨ml_TV_170, xmv_Sea_spread⟩, List.forall_mem_cons.mpr ⟨trivial, List.forall_mem_cons.mpr ⟨fl_TV_12, List.forall_mem_cons.mpr ⟨fl_TV_133, List.forall_mem_cons.mpr ⟨trivial, List.forall_mem_cons.mpr ⟨trivial, List.forall_mem_cons.mpr ⟨trivial, List.forall_mem_cons.mpr ⟨trivial, List.forall_mem_cons.mpr ⟨trivial, List.forall_mem_cons.mpr ⟨fl_TV_47, List.forall_mem_cons.mpr ⟨trivial, List.forall_mem_cons.mpr ⟨⟨ml_TV_175, xmv_Sea_depthOf⟩, List.forall_mem_cons.mpr ⟨trivial, List.forall_mem_cons.mpr ⟨trivial, List.forall_mem_cons.mpr ⟨fl_TV_47, List.forall_mem_cons.mpr ⟨trivial, List.forall_mem_cons.mpr ⟨trivial, List.forall_mem_cons.mpr ⟨⟨ml_TV_178, xmv_Sea_factorAt⟩, List.forall_mem_cons.mpr ⟨trivial, List.forall_mem_cons.mpr ⟨trivial, List.forall_mem_cons.mpr ⟨trivial, fun _ h => absurd h List.not_mem_nil⟩⟩⟩⟩⟩⟩⟩⟩⟩⟩⟩⟩⟩⟩⟩⟩⟩⟩⟩⟩⟩⟩⟩⟩⟩⟩⟩⟩⟩⟩⟩⟩⟩⟩⟩⟩⟩
def k_TV_add : xCd := [
  (0, .iload_n 1, 1, .inl (0, 0)),
  (1, .invokestatic 116, 3, .inr (.inl g_TV_isRegister)),
  (4, .ifCond .ne 5, 3, .inl (9, 0)),
  (7, .iconst (-1), 1, .inr (.inr (.inl (-1)))),
  (8, .ireturn, 1, .inl (0, 0)),
  (9, .aload_n 0, 1, .inl (0, 0)),
  (10, .getfield 12, 3, .inl (8, 0)),
  (13, .getfield 102, 3, .inl (5, 3)),
  (16, .astore_n 2, 1, .inl (0, 0)),
  (17, .aload_n 2, 1, .inl (0, 0)),
  (18, .getfield 113, 3, .inl (2, 0)),
  (21, .bipush 8, 2, .inr (.inr (.inl (nI 8)))),
  (23, .if_icmp .lt 6, 3, .inl (29, 0)),
  (26, .bipush (-3), 2, .inr (.inr (.inl (-3)))),
  (28, .ireturn, 1, .inl (0, 0)),
  (29, .aload_n 0, 1, .inl (0, 0)),
  (30, .getfield 19, 3, .inl (8, 1)),
  (33, .aload_n 0, 1, .inl (0, 0)),
  (34, .getfield 12, 3, .inl (8, 0)),
  (37, .invokevirtual 62, 3, .inr (.inl g_Hist_remember)),
  (40, .aload_n 2, 1, .inl (0, 0)),
  (41, .getfield 113, 3, .inl (2, 0)),
  (44, .ifCond .ne 20, 3, .inl (64, 0)),
  (47, .aload_n 2, 1, .inl (0, 0)),
  (48, .aload_n 0, 1, .inl (0, 0)),
  (49, .getfield 12, 3, .inl (8, 0)),
  (52, .getfield 66, 3, .inl (5, 0)),
  (55, .invokestatic 181, 3, .inr (.inl g_Row_ascending)),
  (58, .invokevirtual 184, 3, .inr (.inl g_Poem_append)),
  (61, .goto 37, 3, .inl (98, 0)),
  (64, .aload_n 2, 1, .inl (0, 0)),
  (65, .aload_n 2, 1, .inl (0, 0)),
  (66, .getfield 185, 3, .inl (2, 2)),
  (69, .aload_n 2, 1, .inl (0, 0)),
  (70, .getfield 113, 3, .inl (2, 0)),
  (73, .iconst 1, 1, .inr (.inr (.inl (nI 1)))),
  (74, .isub, 1, .inl (0, 0)),
  (75, .iaload, 1, .inl (0, 0)),
  (76, .aload_n 0, 1, .inl (0, 0)),
  (77, .getfield 12, 3, .inl (8, 0)),
  (80, .getfield 133, 3, .inl (5, 2)),
  (83, .iload_n 1, 1, .inl (0, 0)),
  (84, .iaload, 1, .inl (0, 0)),
  (85, .aload_n 0, 1, .inl (0, 0)),
  (86, .getfield 12, 3, .inl (8, 0)),
  (89, .getfield 66, 3, .inl (5, 0)),
  (92, .invokestatic 136, 3, .inr (.inl g_Row_turned)),
  (95, .invokevirtual 184, 3, .inr (.inl g_Poem_append)),
  (98, .aload_n 2, 1, .inl (0, 0)),
  (99, .getfield 113, 3, .inl (2, 0)),
  (102, .ireturn, 1, .inl (0, 0))]
set_option maxRecDepth 100000 in
set_option maxHeartbeats 4000000 in
theorem ok_TV_add : xOK g_TV_add k_TV_add := ⟨by decide +kernel, by decide +kernel, List.forall_mem_cons.mpr ⟨trivial, List.forall_mem_cons.mpr ⟨⟨ml_TV_116, xms_TV_isRegister⟩, List.forall_mem_cons.mpr ⟨trivial, List.forall_mem_cons.mpr ⟨trivial, List.forall_mem_cons.mpr ⟨trivial, List.forall_mem_cons.mpr ⟨trivial, List.forall_mem_cons.mpr ⟨fl_TV_12, List.forall_mem_cons.mpr ⟨fl_TV_102, List.forall_mem_cons.mpr ⟨trivial, List.forall_mem_cons.mpr ⟨trivial, List.forall_mem_cons.mpr ⟨fl_TV_113, List.forall_mem_cons.mpr ⟨trivial, List.forall_mem_cons.mpr ⟨trivial, List.forall_mem_cons.mpr ⟨trivial, List.forall_mem_cons.mpr ⟨trivial, List.forall_mem_cons.mpr ⟨trivial, List.forall_mem_cons.mpr ⟨fl_TV_19, List.forall_mem_cons.mpr ⟨trivial, List.forall_mem_cons.mpr ⟨fl_TV_12, List.forall_mem_cons.mpr ⟨⟨ml_TV_62, xmv_Hist_remember⟩, List.forall_mem_cons.mpr ⟨trivial, List.forall_mem_cons.mpr ⟨fl_TV_113, List.forall_mem_cons.mpr ⟨trivial, List.forall_mem_cons.mpr ⟨trivial, List.forall_mem_cons.mpr ⟨trivial, List.forall_mem_cons.mpr ⟨fl_TV_12, List.forall_mem_cons.mpr ⟨fl_TV_66, List.forall_mem_cons.mpr ⟨⟨ml_TV_181, xms_Row_ascending⟩, List.forall_mem_cons.mpr ⟨⟨ml_TV_184, xmv_Poem_append⟩, List.forall_mem_cons.mpr ⟨trivial, List.forall_mem_cons.mpr ⟨trivial, List.forall_mem_cons.mpr ⟨trivial, List.forall_mem_cons.mpr ⟨fl_TV_185, List.forall_mem_cons.mpr ⟨trivial, List.forall_mem_cons.mpr ⟨fl_TV_113, List.forall_mem_cons.mpr ⟨trivial, List.forall_mem_cons.mpr ⟨trivial, List.forall_mem_cons.mpr ⟨trivial, List.forall_mem_cons.mpr ⟨trivial, List.forall_mem_cons.mpr ⟨fl_TV_12, List.forall_mem_cons.mpr ⟨fl_TV_133, List.forall_mem_cons.mpr ⟨trivial, List.forall_mem_cons.mpr ⟨trivial, List.forall_mem_cons.mpr ⟨trivial, List.forall_mem_cons.mpr ⟨fl_TV_12, List.forall_mem_cons.mpr ⟨fl_TV_66, List.forall_mem_cons.mpr ⟨⟨ml_TV_136, xms_Row_turned⟩, List.forall_mem_cons.mpr ⟨⟨ml_TV_184, xmv_Poem_append⟩, List.forall_mem_cons.mpr ⟨trivial, List.forall_mem_cons.mpr ⟨fl_TV_113, List.forall_mem_cons.mpr ⟨trivial, fun _ h => absurd h List.not_mem_nil⟩⟩⟩⟩⟩⟩⟩⟩⟩⟩⟩⟩⟩⟩⟩⟩⟩⟩⟩⟩⟩⟩⟩⟩⟩⟩⟩⟩⟩⟩⟩⟩⟩⟩⟩⟩⟩⟩⟩⟩⟩⟩⟩⟩⟩⟩⟩⟩⟩⟩⟩⟩
def k_TV_drop : xCd := [
  (0, .aload_n 0, 1, .inl (0, 0)),
  (1, .getfield 12, 3, .inl (8, 0)),
  (4, .getfield 102, 3, .inl (5, 3)),
  (7, .getfield 113, 3, .inl (2, 0)),
  (10, .ifCond .ne 6, 3, .inl (16, 0)),
  (13, .bipush (-2), 2, .inr (.inr (.inl (-2)))),
  (15, .ireturn, 1, .inl (0, 0)),
  (16, .aload_n 0, 1, .inl (0, 0)),
  (17, .getfield 19, 3, .inl (8, 1)),
  (20, .aload_n 0, 1, .inl (0, 0)),
  (21, .getfield 12, 3, .inl (8, 0)),
  (24, .invokevirtual 62, 3, .inr (.inl g_Hist_remember)),
  (27, .aload_n 0, 1, .inl (0, 0)),
  (28, .getfield 12, 3, .inl (8, 0)),
  (31, .getfield 102, 3, .inl (5, 3)),
  (34, .dup, 1, .inl (0, 0)),
  (35, .getfield 113, 3, .inl (2, 0)),
  (38, .iconst 1, 1, .inr (.inr (.inl (nI 1)))),
  (39, .isub, 1, .inl (0, 0)),
  (40, .putfield 113, 3, .inl (2, 0)),
  (43, .aload_n 0, 1, .inl (0, 0)),
  (44, .getfield 12, 3, .inl (8, 0)),
  (47, .getfield 102, 3, .inl (5, 3)),
  (50, .getfield 113, 3, .inl (2, 0)),
  (53, .ireturn, 1, .inl (0, 0))]
set_option maxRecDepth 100000 in
set_option maxHeartbeats 4000000 in
theorem ok_TV_drop : xOK g_TV_drop k_TV_drop := ⟨by decide +kernel, by decide +kernel, List.forall_mem_cons.mpr ⟨trivial, List.forall_mem_cons.mpr ⟨fl_TV_12, List.forall_mem_cons.mpr ⟨fl_TV_102, List.forall_mem_cons.mpr ⟨fl_TV_113, List.forall_mem_cons.mpr ⟨trivial, List.forall_mem_cons.mpr ⟨trivial, List.forall_mem_cons.mpr ⟨trivial, List.forall_mem_cons.mpr ⟨trivial, List.forall_mem_cons.mpr ⟨fl_TV_19, List.forall_mem_cons.mpr ⟨trivial, List.forall_mem_cons.mpr ⟨fl_TV_12, List.forall_mem_cons.mpr ⟨⟨ml_TV_62, xmv_Hist_remember⟩, List.forall_mem_cons.mpr ⟨trivial, List.forall_mem_cons.mpr ⟨fl_TV_12, List.forall_mem_cons.mpr ⟨fl_TV_102, List.forall_mem_cons.mpr ⟨trivial, List.forall_mem_cons.mpr ⟨fl_TV_113, List.forall_mem_cons.mpr ⟨trivial, List.forall_mem_cons.mpr ⟨trivial, List.forall_mem_cons.mpr ⟨⟨fl_TV_113, nf_2_0 _⟩, List.forall_mem_cons.mpr ⟨trivial, List.forall_mem_cons.mpr ⟨fl_TV_12, List.forall_mem_cons.mpr ⟨fl_TV_102, List.forall_mem_cons.mpr ⟨fl_TV_113, List.forall_mem_cons.mpr ⟨trivial, fun _ h => absurd h List.not_mem_nil⟩⟩⟩⟩⟩⟩⟩⟩⟩⟩⟩⟩⟩⟩⟩⟩⟩⟩⟩⟩⟩⟩⟩⟩⟩⟩
def k_TV_isStanza : xCd := [
  (0, .iload_n 1, 1, .inl (0, 0)),
  (1, .ifCond .lt 21, 3, .inl (22, 0)),
  (4, .iload_n 1, 1, .inl (0, 0)),
  (5, .aload_n 0, 1, .inl (0, 0)),
  (6, .getfield 12, 3, .inl (8, 0)),
  (9, .getfield 102, 3, .inl (5, 3)),
  (12, .getfield 113, 3, .inl (2, 0)),
  (15, .if_icmp .ge 7, 3, .inl (22, 0)),
  (18, .iconst 1, 1, .inr (.inr (.inl (nI 1)))),
  (19, .goto 4, 3, .inl (23, 0)),
  (22, .iconst 0, 1, .inr (.inr (.inl (nI 0)))),
  (23, .ireturn, 1, .inl (0, 0))]
set_option maxRecDepth 100000 in
set_option maxHeartbeats 4000000 in
theorem ok_TV_isStanza : xOK g_TV_isStanza k_TV_isStanza := ⟨by decide +kernel, by decide +kernel, List.forall_mem_cons.mpr ⟨trivial, List.forall_mem_cons.mpr ⟨trivial, List.forall_mem_cons.mpr ⟨trivial, List.forall_mem_cons.mpr ⟨trivial, List.forall_mem_cons.mpr ⟨fl_TV_12, List.forall_mem_cons.mpr ⟨fl_TV_102, List.forall_mem_cons.mpr ⟨fl_TV_113, List.forall_mem_cons.mpr ⟨trivial, List.forall_mem_cons.mpr ⟨trivial, List.forall_mem_cons.mpr ⟨trivial, List.forall_mem_cons.mpr ⟨trivial, List.forall_mem_cons.mpr ⟨trivial, fun _ h => absurd h List.not_mem_nil⟩⟩⟩⟩⟩⟩⟩⟩⟩⟩⟩⟩⟩
def k_TV_put : xCd := [
  (0, .aload_n 0, 1, .inl (0, 0)),
  (1, .iload_n 1, 1, .inl (0, 0)),
  (2, .invokevirtual 188, 3, .inr (.inl g_TV_isStanza)),
  (5, .ifCond .eq 19, 3, .inl (24, 0)),
  (8, .aload_n 0, 1, .inl (0, 0)),
  (9, .iload_n 2, 1, .inl (0, 0)),
  (10, .invokevirtual 74, 3, .inr (.inl g_TV_isLine)),
  (13, .ifCond .eq 11, 3, .inl (24, 0)),
  (16, .aload_n 0, 1, .inl (0, 0)),
  (17, .iload_n 3, 1, .inl (0, 0)),
  (18, .invokevirtual 74, 3, .inr (.inl g_TV_isLine)),
  (21, .ifCond .ne 5, 3, .inl (26, 0)),
  (24, .iconst (-1), 1, .inr (.inr (.inl (-1)))),
  (25, .ireturn, 1, .inl (0, 0)),
  (26, .aload_n 0, 1, .inl (0, 0)),
  (27, .getfield 19, 3, .inl (8, 1)),
  (30, .aload_n 0, 1, .inl (0, 0)),
  (31, .getfield 12, 3, .inl (8, 0)),
  (34, .invokevirtual 62, 3, .inr (.inl g_Hist_remember)),
  (37, .aload_n 0, 1, .inl (0, 0)),
  (38, .getfield 12, 3, .inl (8, 0)),
  (41, .getfield 102, 3, .inl (5, 3)),
  (44, .getfield 185, 3, .inl (2, 2)),
  (47, .iload_n 1, 1, .inl (0, 0)),
  (48, .iaload, 1, .inl (0, 0)),
  (49, .istore 4, 2, .inl (0, 0)),
  (51, .aload_n 0, 1, .inl (0, 0)),
  (52, .getfield 12, 3, .inl (8, 0)),
  (55, .getfield 102, 3, .inl (5, 3)),
  (58, .getfield 185, 3, .inl (2, 2)),
  (61, .iload_n 1, 1, .inl (0, 0)),
  (62, .iload 4, 2, .inl (0, 0)),
  (64, .iload_n 2, 1, .inl (0, 0)),
  (65, .iload_n 3, 1, .inl (0, 0)),
  (66, .invokestatic 87, 3, .inr (.inl g_Row_with)),
  (69, .iastore, 1, .inl (0, 0)),
  (70, .iload 4, 2, .inl (0, 0)),
  (72, .iload_n 2, 1, .inl (0, 0)),
  (73, .invokestatic 81, 3, .inr (.inl g_Row_entry)),
  (76, .ireturn, 1, .inl (0, 0))]
set_option maxRecDepth 100000 in
set_option maxHeartbeats 4000000 in
theorem ok_TV_put : xOK g_TV_put k_TV_put := ⟨by decide +kernel, by decide +kernel, List.forall_mem_cons.mpr ⟨trivial, List.forall_mem_cons.mpr ⟨trivial, List.forall_mem_cons.mpr ⟨⟨ml_TV_188, xmv_TV_isStanza⟩, List.forall_mem_cons.mpr ⟨trivial, List.forall_mem_cons.mpr ⟨trivial, List.forall_mem_cons.mpr ⟨trivial, List.forall_mem_cons.mpr ⟨⟨ml_TV_74, xmv_TV_isLine⟩, List.forall_mem_cons.mpr ⟨trivial, List.forall_mem_cons.mpr ⟨trivial, List.forall_mem_cons.mpr ⟨trivial, List.forall_mem_cons.mpr ⟨⟨ml_TV_74, xmv_TV_isLine⟩, List.forall_mem_cons.mpr ⟨trivial, List.forall_mem_cons.mpr ⟨trivial, List.forall_mem_cons.mpr ⟨trivial, List.forall_mem_cons.mpr ⟨trivial, List.forall_mem_cons.mpr ⟨fl_TV_19, List.forall_mem_cons.mpr ⟨trivial, List.forall_mem_cons.mpr ⟨fl_TV_12, List.forall_mem_cons.mpr ⟨⟨ml_TV_62, xmv_Hist_remember⟩, List.forall_mem_cons.mpr ⟨trivial, List.forall_mem_cons.mpr ⟨fl_TV_12, List.forall_mem_cons.mpr ⟨fl_TV_102, List.forall_mem_cons.mpr ⟨fl_TV_185, List.forall_mem_cons.mpr ⟨trivial, List.forall_mem_cons.mpr ⟨trivial, List.forall_mem_cons.mpr ⟨trivial, List.forall_mem_cons.mpr ⟨trivial, List.forall_mem_cons.mpr ⟨fl_TV_12, List.forall_mem_cons.mpr ⟨fl_TV_102, List.forall_mem_cons.mpr ⟨fl_TV_185, List.forall_mem_cons.mpr ⟨trivial, List.forall_mem_cons.mpr ⟨trivial, List.forall_mem_cons.mpr ⟨trivial, List.forall_mem_cons.mpr ⟨trivial, List.forall_mem_cons.mpr ⟨⟨ml_TV_87, xms_Row_with⟩, List.forall_mem_cons.mpr ⟨trivial, List.forall_mem_cons.mpr ⟨trivial, List.forall_mem_cons.mpr ⟨trivial, List.forall_mem_cons.mpr ⟨⟨ml_TV_81, xms_Row_entry⟩, List.forall_mem_cons.mpr ⟨trivial, fun _ h => absurd h List.not_mem_nil⟩⟩⟩⟩⟩⟩⟩⟩⟩⟩⟩⟩⟩⟩⟩⟩⟩⟩⟩⟩⟩⟩⟩⟩⟩⟩⟩⟩⟩⟩⟩⟩⟩⟩⟩⟩⟩⟩⟩⟩⟩
def k_TV_lock : xCd := [
  (0, .aload_n 0, 1, .inl (0, 0)),
  (1, .iload_n 1, 1, .inl (0, 0)),
  (2, .invokevirtual 188, 3, .inr (.inl g_TV_isStanza)),
  (5, .ifCond .eq 11, 3, .inl (16, 0)),
  (8, .aload_n 0, 1, .inl (0, 0)),
  (9, .iload_n 2, 1, .inl (0, 0)),
  (10, .invokevirtual 74, 3, .inr (.inl g_TV_isLine)),
  (13, .ifCond .ne 5, 3, .inl (18, 0)),
  (16, .iconst (-1), 1, .inr (.inr (.inl (-1)))),
  (17, .ireturn, 1, .inl (0, 0)),
  (18, .aload_n 0, 1, .inl (0, 0)),
  (19, .getfield 19, 3, .inl (8, 1)),
  (22, .aload_n 0, 1, .inl (0, 0)),
  (23, .getfield 12, 3, .inl (8, 0)),
  (26, .invokevirtual 62, 3, .inr (.inl g_Hist_remember)),
  (29, .aload_n 0, 1, .inl (0, 0)),
  (30, .getfield 12, 3, .inl (8, 0)),
  (33, .getfield 102, 3, .inl (5, 3)),
  (36, .getfield 191, 3, .inl (2, 3)),
  (39, .iload_n 1, 1, .inl (0, 0)),
  (40, .iaload, 1, .inl (0, 0)),
  (41, .istore 4, 2, .inl (0, 0)),
  (43, .iconst 1, 1, .inr (.inr (.inl (nI 1)))),
  (44, .iload_n 2, 1, .inl (0, 0)),
  (45, .ishl, 1, .inl (0, 0)),
  (46, .istore 5, 2, .inl (0, 0)),
  (48, .aload_n 0, 1, .inl (0, 0)),
  (49, .getfield 12, 3, .inl (8, 0)),
  (52, .getfield 102, 3, .inl (5, 3)),
  (55, .getfield 191, 3, .inl (2, 3)),
  (58, .iload_n 1, 1, .inl (0, 0)),
  (59, .iload_n 3, 1, .inl (0, 0)),
  (60, .ifCond .eq 11, 3, .inl (71, 0)),
  (63, .iload 4, 2, .inl (0, 0)),
  (65, .iload 5, 2, .inl (0, 0)),
  (67, .ior, 1, .inl (0, 0)),
  (68, .goto 10, 3, .inl (78, 0)),
  (71, .iload 4, 2, .inl (0, 0)),
  (73, .iload 5, 2, .inl (0, 0)),
  (75, .iconst (-1), 1, .inr (.inr (.inl (-1)))),
  (76, .ixor, 1, .inl (0, 0)),
  (77, .iand, 1, .inl (0, 0)),
  (78, .iastore, 1, .inl (0, 0)),
  (79, .iload 4, 2, .inl (0, 0)),
  (81, .iload_n 2, 1, .inl (0, 0)),
  (82, .ishr, 1, .inl (0, 0)),
  (83, .iconst 1, 1, .inr (.inr (.inl (nI 1)))),
  (84, .iand, 1, .inl (0, 0)),
  (85, .ireturn, 1, .inl (0, 0))]
set_option maxRecDepth 100000 in
set_option maxHeartbeats 4000000 in
theorem ok_TV_lock : xOK g_TV_lock k_TV_lock := ⟨by decide +kernel, by decide +kernel, List.forall_mem_cons.mpr ⟨trivial, List.forall_mem_cons.mpr ⟨trivial, List.forall_mem_cons.mpr ⟨⟨ml_TV_188, xmv_TV_isStanza⟩, List.forall_mem_cons.mpr ⟨trivial, List.forall_mem_cons.mpr ⟨trivial, List.forall_mem_cons.mpr ⟨trivial, List.forall_mem_cons.mpr ⟨⟨ml_TV_74, xmv_TV_isLine⟩, List.forall_mem_cons.mpr ⟨trivial, List.forall_mem_cons.mpr ⟨trivial, List.forall_mem_cons.mpr ⟨trivial, List.forall_mem_cons.mpr ⟨trivial, List.forall_mem_cons.mpr ⟨fl_TV_19, List.forall_mem_cons.mpr ⟨trivial, List.forall_mem_cons.mpr ⟨fl_TV_12, List.forall_mem_cons.mpr ⟨⟨ml_TV_62, xmv_Hist_remember⟩, List.forall_mem_cons.mpr ⟨trivial, List.forall_mem_cons.mpr ⟨fl_TV_12, List.forall_mem_cons.mpr ⟨fl_TV_102, List.forall_mem_cons.mpr ⟨fl_TV_191, List.forall_mem_cons.mpr ⟨trivial, List.forall_mem_cons.mpr ⟨trivial, List.forall_mem_cons.mpr ⟨trivial, List.forall_mem_cons.mpr ⟨trivial, List.forall_mem_cons.mpr ⟨trivial, List.forall_mem_cons.mpr ⟨trivial, List.forall_mem_cons.mpr ⟨trivial, List.forall_mem_cons.mpr ⟨trivial, List.forall_mem_cons.mpr ⟨fl_TV_12, List.forall_mem_cons.mpr ⟨fl_TV_102, List.forall_mem_cons.mpr ⟨fl_TV_191, List.forall_mem_cons.mpr ⟨trivial, List.forall_mem_cons.mpr ⟨trivial, List.forall_mem_cons.mpr ⟨trivial, List.forall_mem_cons.mpr ⟨trivial, List.forall_mem_cons.mpr ⟨trivial, List.forall_mem_cons.mpr ⟨trivial, List.forall_mem_cons.mpr ⟨trivial, List.forall_mem_cons.mpr ⟨trivial, List.forall_mem_cons.mpr ⟨trivial, List.forall_mem_cons.mpr ⟨trivial, List.forall_mem_cons.mpr ⟨trivial, List.forall_mem_cons.mpr ⟨trivial, List.forall_mem_cons.mpr ⟨trivial, List.forall_mem_cons.mpr ⟨trivial, List.forall_mem_cons.mpr ⟨trivial, List.forall_mem_cons.mpr ⟨trivial, List.forall_mem_cons.mpr ⟨trivial, List.forall_mem_cons.mpr ⟨trivial, List.forall_mem_cons.mpr ⟨trivial, fun _ h => absurd h List.not_mem_nil⟩⟩⟩⟩⟩⟩⟩⟩⟩⟩⟩⟩⟩⟩⟩⟩⟩⟩⟩⟩⟩⟩⟩⟩⟩⟩⟩⟩⟩⟩⟩⟩⟩⟩⟩⟩⟩⟩⟩⟩⟩⟩⟩⟩⟩⟩⟩⟩⟩⟩
def k_TV_word : xCd := [
  (0, .aload_n 0, 1, .inl (0, 0)),
  (1, .iload_n 1, 1, .inl (0, 0)),
  (2, .invokevirtual 188, 3, .inr (.inl g_TV_isStanza)),
  (5, .ifCond .eq 11, 3, .inl (16, 0)),
  (8, .aload_n 0, 1, .inl (0, 0)),
  (9, .iload_n 2, 1, .inl (0, 0)),
  (10, .invokevirtual 74, 3, .inr (.inl g_TV_isLine)),
  (13, .ifCond .ne 5, 3, .inl (18, 0)),
  (16, .iconst (-1), 1, .inr (.inr (.inl (-1)))),
  (17, .ireturn, 1, .inl (0, 0)),
  (18, .aload_n 0, 1, .inl (0, 0)),
  (19, .getfield 12, 3, .inl (8, 0)),
  (22, .getfield 102, 3, .inl (5, 3)),
  (25, .getfield 185, 3, .inl (2, 2)),
  (28, .iload_n 1, 1, .inl (0, 0)),
  (29, .iaload, 1, .inl (0, 0)),
  (30, .iload_n 2, 1, .inl (0, 0)),
  (31, .invokestatic 81, 3, .inr (.inl g_Row_entry)),
  (34, .ireturn, 1, .inl (0, 0))]
set_option maxRecDepth 100000 in
set_option maxHeartbeats 4000000 in
theorem ok_TV_word : xOK g_TV_word k_TV_word := ⟨by decide +kernel, by decide +kernel, List.forall_mem_cons.mpr ⟨trivial, List.forall_mem_cons.mpr ⟨trivial, List.forall_mem_cons.mpr ⟨⟨ml_TV_188, xmv_TV_isStanza⟩, List.forall_mem_cons.mpr ⟨trivial, List.forall_mem_cons.mpr ⟨trivial, List.forall_mem_cons.mpr ⟨trivial, List.forall_mem_cons.mpr ⟨⟨ml_TV_74, xmv_TV_isLine⟩, List.forall_mem_cons.mpr ⟨trivial, List.forall_mem_cons.mpr ⟨trivial, List.forall_mem_cons.mpr ⟨trivial, List.forall_mem_cons.mpr ⟨trivial, List.forall_mem_cons.mpr ⟨fl_TV_12, List.forall_mem_cons.mpr ⟨fl_TV_102, List.forall_mem_cons.mpr ⟨fl_TV_185, List.forall_mem_cons.mpr ⟨trivial, List.forall_mem_cons.mpr ⟨trivial, List.forall_mem_cons.mpr ⟨trivial, List.forall_mem_cons.mpr ⟨⟨ml_TV_81, xms_Row_entry⟩, List.forall_mem_cons.mpr ⟨trivial, fun _ h => absurd h List.not_mem_nil⟩⟩⟩⟩⟩⟩⟩⟩⟩⟩⟩⟩⟩⟩⟩⟩⟩⟩⟩⟩
def k_TV_proper : xCd := [
  (0, .aload_n 0, 1, .inl (0, 0)),
  (1, .iload_n 1, 1, .inl (0, 0)),
  (2, .invokevirtual 188, 3, .inr (.inl g_TV_isStanza)),
  (5, .ifCond .ne 5, 3, .inl (10, 0)),
  (8, .iconst (-1), 1, .inr (.inr (.inl (-1)))),
  (9, .ireturn, 1, .inl (0, 0)),
  (10, .aload_n 0, 1, .inl (0, 0)),
  (11, .getfield 12, 3, .inl (8, 0)),
  (14, .getfield 102, 3, .inl (5, 3)),
  (17, .getfield 185, 3, .inl (2, 2)),
  (20, .iload_n 1, 1, .inl (0, 0)),
  (21, .iaload, 1, .inl (0, 0)),
  (22, .aload_n 0, 1, .inl (0, 0)),
  (23, .getfield 12, 3, .inl (8, 0)),
  (26, .getfield 66, 3, .inl (5, 0)),
  (29, .invokestatic 194, 3, .inr (.inl g_Row_hasEach)),
  (32, .ifCond .eq 7, 3, .inl (39, 0)),
  (35, .iconst 1, 1, .inr (.inr (.inl (nI 1)))),
  (36, .goto 4, 3, .inl (40, 0)),
  (39, .iconst 0, 1, .inr (.inr (.inl (nI 0)))),
  (40, .ireturn, 1, .inl (0, 0))]
set_option maxRecDepth 100000 in
set_option maxHeartbeats 4000000 in
theorem ok_TV_proper : xOK g_TV_proper k_TV_proper := ⟨by decide +kernel, by decide +kernel, List.forall_mem_cons.mpr ⟨trivial, List.forall_mem_cons.mpr ⟨trivial, List.forall_mem_cons.mpr ⟨⟨ml_TV_188, xmv_TV_isStanza⟩, List.forall_mem_cons.mpr ⟨trivial, List.forall_mem_cons.mpr ⟨trivial, List.forall_mem_cons.mpr ⟨trivial, List.forall_mem_cons.mpr ⟨trivial, List.forall_mem_cons.mpr ⟨fl_TV_12, List.forall_mem_cons.mpr ⟨fl_TV_102, List.forall_mem_cons.mpr ⟨fl_TV_185, List.forall_mem_cons.mpr ⟨trivial, List.forall_mem_cons.mpr ⟨trivial, List.forall_mem_cons.mpr ⟨trivial, List.forall_mem_cons.mpr ⟨fl_TV_12, List.forall_mem_cons.mpr ⟨fl_TV_66, List.forall_mem_cons.mpr ⟨⟨ml_TV_194, xms_Row_hasEach⟩, List.forall_mem_cons.mpr ⟨trivial, List.forall_mem_cons.mpr ⟨trivial, List.forall_mem_cons.mpr ⟨trivial, List.forall_mem_cons.mpr ⟨trivial, List.forall_mem_cons.mpr ⟨trivial, fun _ h => absurd h List.not_mem_nil⟩⟩⟩⟩⟩⟩⟩⟩⟩⟩⟩⟩⟩⟩⟩⟩⟩⟩⟩⟩⟩⟩
def k_TV_turning : xCd := [
  (0, .aload_n 0, 1, .inl (0, 0)),
  (1, .iload_n 1, 1, .inl (0, 0)),
  (2, .invokevirtual 188, 3, .inr (.inl g_TV_isStanza)),
  (5, .ifCond .ne 5, 3, .inl (10, 0)),
  (8, .iconst (-1), 1, .inr (.inr (.inl (-1)))),
  (9, .ireturn, 1, .inl (0, 0)),
  (10, .aload_n 0, 1, .inl (0, 0)),
  (11, .getfield 12, 3, .inl (8, 0)),
  (14, .getfield 102, 3, .inl (5, 3)),
  (17, .iload_n 1, 1, .inl (0, 0)),
  (18, .aload_n 0, 1, .inl (0, 0)),
  (19, .getfield 12, 3, .inl (8, 0)),
  (22, .getfield 66, 3, .inl (5, 0)),
  (25, .invokevirtual 198, 3, .inr (.inl g_Poem_turnBehind)),
  (28, .istore_n 2, 1, .inl (0, 0)),
  (29, .iload_n 2, 1, .inl (0, 0)),
  (30, .iconst (-1), 1, .inr (.inr (.inl (-1)))),
  (31, .if_icmp .ne 8, 3, .inl (39, 0)),
  (34, .bipush (-9), 2, .inr (.inr (.inl (-9)))),
  (36, .goto 14, 3, .inl (50, 0)),
  (39, .iload_n 2, 1, .inl (0, 0)),
  (40, .aload_n 0, 1, .inl (0, 0)),
  (41, .getfield 12, 3, .inl (8, 0)),
  (44, .getfield 66, 3, .inl (5, 0)),
  (47, .invokestatic 201, 3, .inr (.inl g_Perm_number)),
  (50, .ireturn, 1, .inl (0, 0))]
set_option maxRecDepth 100000 in
set_option maxHeartbeats 4000000 in
theorem ok_TV_turning : xOK g_TV_turning k_TV_turning := ⟨by decide +kernel, by decide +kernel, List.forall_mem_cons.mpr ⟨trivial, List.forall_mem_cons.mpr ⟨trivial, List.forall_mem_cons.mpr ⟨⟨ml_TV_188, xmv_TV_isStanza⟩, List.forall_mem_cons.mpr ⟨trivial, List.forall_mem_cons.mpr ⟨trivial, List.forall_mem_cons.mpr ⟨trivial, List.forall_mem_cons.mpr ⟨trivial, List.forall_mem_cons.mpr ⟨fl_TV_12, List.forall_mem_cons.mpr ⟨fl_TV_102, List.forall_mem_cons.mpr ⟨trivial, List.forall_mem_cons.mpr ⟨trivial, List.forall_mem_cons.mpr ⟨fl_TV_12, List.forall_mem_cons.mpr ⟨fl_TV_66, List.forall_mem_cons.mpr ⟨⟨ml_TV_198, xmv_Poem_turnBehind⟩, List.forall_mem_cons.mpr ⟨trivial, List.forall_mem_cons.mpr ⟨trivial, List.forall_mem_cons.mpr ⟨trivial, List.forall_mem_cons.mpr ⟨trivial, List.forall_mem_cons.mpr ⟨trivial, List.forall_mem_cons.mpr ⟨trivial, List.forall_mem_cons.mpr ⟨trivial, List.forall_mem_cons.mpr ⟨trivial, List.forall_mem_cons.mpr ⟨fl_TV_12, List.forall_mem_cons.mpr ⟨fl_TV_66, List.forall_mem_cons.mpr ⟨⟨ml_TV_201, xms_Perm_number⟩, List.forall_mem_cons.mpr ⟨trivial, fun _ h => absurd h List.not_mem_nil⟩⟩⟩⟩⟩⟩⟩⟩⟩⟩⟩⟩⟩⟩⟩⟩⟩⟩⟩⟩⟩⟩⟩⟩⟩⟩⟩
def k_TV_common : xCd := [
  (0, .iload_n 1, 1, .inl (0, 0)),
  (1, .invokestatic 116, 3, .inr (.inl g_TV_isRegister)),
  (4, .ifCond .ne 5, 3, .inl (9, 0)),
  (7, .iconst (-1), 1, .inr (.inr (.inl (-1)))),
  (8, .ireturn, 1, .inl (0, 0)),
  (9, .aload_n 0, 1, .inl (0, 0)),
  (10, .getfield 12, 3, .inl (8, 0)),
  (13, .getfield 102, 3, .inl (5, 3)),
  (16, .iconst 0, 1, .inr (.inr (.inl (nI 0)))),
  (17, .aload_n 0, 1, .inl (0, 0)),
  (18, .getfield 12, 3, .inl (8, 0)),
  (21, .getfield 66, 3, .inl (5, 0)),
  (24, .invokevirtual 198, 3, .inr (.inl g_Poem_turnBehind)),
  (27, .istore_n 2, 1, .inl (0, 0)),
  (28, .iload_n 2, 1, .inl (0, 0)),
  (29, .iconst (-1), 1, .inr (.inr (.inl (-1)))),
  (30, .if_icmp .eq 24, 3, .inl (54, 0)),
  (33, .aload_n 0, 1, .inl (0, 0)),
  (34, .getfield 12, 3, .inl (8, 0)),
  (37, .getfield 102, 3, .inl (5, 3)),
  (40, .iload_n 2, 1, .inl (0, 0)),
  (41, .aload_n 0, 1, .inl (0, 0)),
  (42, .getfield 12, 3, .inl (8, 0)),
  (45, .getfield 66, 3, .inl (5, 0)),
  (48, .invokevirtual 204, 3, .inr (.inl g_Poem_turnsBy)),
  (51, .ifCond .ne 17, 3, .inl (68, 0)),
  (54, .aload_n 0, 1, .inl (0, 0)),
  (55, .getfield 19, 3, .inl (8, 1)),
  (58, .aload_n 0, 1, .inl (0, 0)),
  (59, .getfield 12, 3, .inl (8, 0)),
  (62, .invokevirtual 62, 3, .inr (.inl g_Hist_remember)),
  (65, .bipush (-9), 2, .inr (.inr (.inl (-9)))),
  (67, .ireturn, 1, .inl (0, 0)),
  (68, .aload_n 0, 1, .inl (0, 0)),
  (69, .iload_n 1, 1, .inl (0, 0)),
  (70, .iload_n 2, 1, .inl (0, 0)),
  (71, .invokevirtual 125, 3, .inr (.inl g_TV_store)),
  (74, .ireturn, 1, .inl (0, 0))]
set_option maxRecDepth 100000 in
set_option maxHeartbeats 4000000 in
theorem ok_TV_common : xOK g_TV_common k_TV_common := ⟨by decide +kernel, by decide +kernel, List.forall_mem_cons.mpr ⟨trivial, List.forall_mem_cons.mpr ⟨⟨ml_TV_116, xms_TV_isRegister⟩, List.forall_mem_cons.mpr ⟨trivial, List.forall_mem_cons.mpr ⟨trivial, List.forall_mem_cons.mpr ⟨trivial, List.forall_mem_cons.mpr ⟨trivial, List.forall_mem_cons.mpr ⟨fl_TV_12, List.forall_mem_cons.mpr ⟨fl_TV_102, List.forall_mem_cons.mpr ⟨trivial, List.forall_mem_cons.mpr ⟨trivial, List.forall_mem_cons.mpr ⟨fl_TV_12, List.forall_mem_cons.mpr ⟨fl_TV_66, List.forall_mem_cons.mpr ⟨⟨ml_TV_198, xmv_Poem_turnBehind⟩, List.forall_mem_cons.mpr ⟨trivial, List.forall_mem_cons.mpr ⟨trivial, List.forall_mem_cons.mpr ⟨trivial, List.forall_mem_cons.mpr ⟨trivial, List.forall_mem_cons.mpr ⟨trivial, List.forall_mem_cons.mpr ⟨fl_TV_12, List.forall_mem_cons.mpr ⟨fl_TV_102, List.forall_mem_cons.mpr ⟨trivial, List.forall_mem_cons.mpr ⟨trivial, List.forall_mem_cons.mpr ⟨fl_TV_12, List.forall_mem_cons.mpr ⟨fl_TV_66, List.forall_mem_cons.mpr ⟨⟨ml_TV_204, xmv_Poem_turnsBy⟩, List.forall_mem_cons.mpr ⟨trivial, List.forall_mem_cons.mpr ⟨trivial, List.forall_mem_cons.mpr ⟨fl_TV_19, List.forall_mem_cons.mpr ⟨trivial, List.forall_mem_cons.mpr ⟨fl_TV_12, List.forall_mem_cons.mpr ⟨⟨ml_TV_62, xmv_Hist_remember⟩, List.forall_mem_cons.mpr ⟨trivial, List.forall_mem_cons.mpr ⟨trivial, List.forall_mem_cons.mpr ⟨trivial, List.forall_mem_cons.mpr ⟨trivial, List.forall_mem_cons.mpr ⟨trivial, List.forall_mem_cons.mpr ⟨⟨ml_TV_125, xmv_TV_store⟩, List.forall_mem_cons.mpr ⟨trivial, fun _ h => absurd h List.not_mem_nil⟩⟩⟩⟩⟩⟩⟩⟩⟩⟩⟩⟩⟩⟩⟩⟩⟩⟩⟩⟩⟩⟩⟩⟩⟩⟩⟩⟩⟩⟩⟩⟩⟩⟩⟩⟩⟩⟩⟩
def k_TV_follows : xCd := [
  (0, .iload_n 1, 1, .inl (0, 0)),
  (1, .invokestatic 116, 3, .inr (.inl g_TV_isRegister)),
  (4, .ifCond .ne 5, 3, .inl (9, 0)),
  (7, .iconst (-1), 1, .inr (.inr (.inl (-1)))),
  (8, .ireturn, 1, .inl (0, 0)),
  (9, .aload_n 0, 1, .inl (0, 0)),
  (10, .getfield 12, 3, .inl (8, 0)),
  (13, .getfield 102, 3, .inl (5, 3)),
  (16, .aload_n 0, 1, .inl (0, 0)),
  (17, .getfield 12, 3, .inl (8, 0)),
  (20, .getfield 133, 3, .inl (5, 2)),
  (23, .iload_n 1, 1, .inl (0, 0)),
  (24, .iaload, 1, .inl (0, 0)),
  (25, .aload_n 0, 1, .inl (0, 0)),
  (26, .getfield 12, 3, .inl (8, 0)),
  (29, .getfield 66, 3, .inl (5, 0)),
  (32, .invokevirtual 204, 3, .inr (.inl g_Poem_turnsBy)),
  (35, .ifCond .eq 7, 3, .inl (42, 0)),
  (38, .iconst 1, 1, .inr (.inr (.inl (nI 1)))),
  (39, .goto 4, 3, .inl (43, 0)),
  (42, .iconst 0, 1, .inr (.inr (.inl (nI 0)))),
  (43, .ireturn, 1, .inl (0, 0))]
set_option maxRecDepth 100000 in
set_option maxHeartbeats 4000000 in
theorem ok_TV_follows : xOK g_TV_follows k_TV_follows := ⟨by decide +kernel, by decide +kernel, List.forall_mem_cons.mpr ⟨trivial, List.forall_mem_cons.mpr ⟨⟨ml_TV_116, xms_TV_isRegister⟩, List.forall_mem_cons.mpr ⟨trivial, List.forall_mem_cons.mpr ⟨trivial, List.forall_mem_cons.mpr ⟨trivial, List.forall_mem_cons.mpr ⟨trivial, List.forall_mem_cons.mpr ⟨fl_TV_12, List.forall_mem_cons.mpr ⟨fl_TV_102, List.forall_mem_cons.mpr ⟨trivial, List.forall_mem_cons.mpr ⟨fl_TV_12, List.forall_mem_cons.mpr ⟨fl_TV_133, List.forall_mem_cons.mpr ⟨trivial, List.forall_mem_cons.mpr ⟨trivial, List.forall_mem_cons.mpr ⟨trivial, List.forall_mem_cons.mpr ⟨fl_TV_12, List.forall_mem_cons.mpr ⟨fl_TV_66, List.forall_mem_cons.mpr ⟨⟨ml_TV_204, xmv_Poem_turnsBy⟩, List.forall_mem_cons.mpr ⟨trivial, List.forall_mem_cons.mpr ⟨trivial, List.forall_mem_cons.mpr ⟨trivial, List.forall_mem_cons.mpr ⟨trivial, List.forall_mem_cons.mpr ⟨trivial, fun _ h => absurd h List.not_mem_nil⟩⟩⟩⟩⟩⟩⟩⟩⟩⟩⟩⟩⟩⟩⟩⟩⟩⟩⟩⟩⟩⟩⟩
def k_TV_cost : xCd := [
  (0, .iload_n 1, 1, .inl (0, 0)),
  (1, .invokestatic 116, 3, .inr (.inl g_TV_isRegister)),
  (4, .ifCond .ne 5, 3, .inl (9, 0)),
  (7, .iconst (-1), 1, .inr (.inr (.inl (-1)))),
  (8, .ireturn, 1, .inl (0, 0)),
  (9, .aload_n 0, 1, .inl (0, 0)),
  (10, .getfield 12, 3, .inl (8, 0)),
  (13, .getfield 102, 3, .inl (5, 3)),
  (16, .getfield 113, 3, .inl (2, 0)),
  (19, .ifCond .ne 6, 3, .inl (25, 0)),
  (22, .bipush (-2), 2, .inr (.inr (.inl (-2)))),
  (24, .ireturn, 1, .inl (0, 0)),
  (25, .aload_n 0, 1, .inl (0, 0)),
  (26, .getfield 54, 3, .inl (8, 6)),
  (29, .aload_n 0, 1, .inl (0, 0)),
  (30, .getfield 12, 3, .inl (8, 0)),
  (33, .getfield 102, 3, .inl (5, 3)),
  (36, .aload_n 0, 1, .inl (0, 0)),
  (37, .getfield 12, 3, .inl (8, 0)),
  (40, .getfield 133, 3, .inl (5, 2)),
  (43, .iload_n 1, 1, .inl (0, 0)),
  (44, .iaload, 1, .inl (0, 0)),
  (45, .aload_n 0, 1, .inl (0, 0)),
  (46, .getfield 12, 3, .inl (8, 0)),
  (49, .getfield 66, 3, .inl (5, 0)),
  (52, .invokevirtual 207, 3, .inr (.inl g_Fit_changes)),
  (55, .ireturn, 1, .inl (0, 0))]
set_option maxRecDepth 100000 in
set_option maxHeartbeats 4000000 in
theorem ok_TV_cost : xOK g_TV_cost k_TV_cost := ⟨by decide +kernel, by decide +kernel, List.forall_mem_cons.mpr ⟨trivial, List.forall_mem_cons.mpr ⟨⟨ml_TV_116, xms_TV_isRegister⟩, List.forall_mem_cons.mpr ⟨trivial, List.forall_mem_cons.mpr ⟨trivial, List.forall_mem_cons.mpr ⟨trivial, List.forall_mem_cons.mpr ⟨trivial, List.forall_mem_cons.mpr ⟨fl_TV_12, List.forall_mem_cons.mpr ⟨fl_TV_102, List.forall_mem_cons.mpr ⟨fl_TV_113, List.forall_mem_cons.mpr ⟨trivial, List.forall_mem_cons.mpr ⟨trivial, List.forall_mem_cons.mpr ⟨trivial, List.forall_mem_cons.mpr ⟨trivial, List.forall_mem_cons.mpr ⟨fl_TV_54, List.forall_mem_cons.mpr ⟨trivial, List.forall_mem_cons.mpr ⟨fl_TV_12, List.forall_mem_cons.mpr ⟨fl_TV_102, List.forall_mem_cons.mpr ⟨trivial, List.forall_mem_cons.mpr ⟨fl_TV_12, List.forall_mem_cons.mpr ⟨fl_TV_133, List.forall_mem_cons.mpr ⟨trivial, List.forall_mem_cons.mpr ⟨trivial, List.forall_mem_cons.mpr ⟨trivial, List.forall_mem_cons.mpr ⟨fl_TV_12, List.forall_mem_cons.mpr ⟨fl_TV_66, List.forall_mem_cons.mpr ⟨⟨ml_TV_207, xmv_Fit_changes⟩, List.forall_mem_cons.mpr ⟨trivial, fun _ h => absurd h List.not_mem_nil⟩⟩⟩⟩⟩⟩⟩⟩⟩⟩⟩⟩⟩⟩⟩⟩⟩⟩⟩⟩⟩⟩⟩⟩⟩⟩⟩⟩
def k_TV_mend : xCd := [
  (0, .iload_n 1, 1, .inl (0, 0)),
  (1, .invokestatic 116, 3, .inr (.inl g_TV_isRegister)),
  (4, .ifCond .ne 5, 3, .inl (9, 0)),
  (7, .iconst (-1), 1, .inr (.inr (.inl (-1)))),
  (8, .ireturn, 1, .inl (0, 0)),
  (9, .aload_n 0, 1, .inl (0, 0)),
  (10, .getfield 12, 3, .inl (8, 0)),
  (13, .getfield 102, 3, .inl (5, 3)),
  (16, .getfield 113, 3, .inl (2, 0)),
  (19, .ifCond .ne 6, 3, .inl (25, 0)),
  (22, .bipush (-2), 2, .inr (.inr (.inl (-2)))),
  (24, .ireturn, 1, .inl (0, 0)),
  (25, .aload_n 0, 1, .inl (0, 0)),
  (26, .getfield 19, 3, .inl (8, 1)),
  (29, .aload_n 0, 1, .inl (0, 0)),
  (30, .getfield 12, 3, .inl (8, 0)),
  (33, .invokevirtual 62, 3, .inr (.inl g_Hist_remember)),
  (36, .aload_n 0, 1, .inl (0, 0)),
  (37, .getfield 12, 3, .inl (8, 0)),
  (40, .getfield 133, 3, .inl (5, 2)),
  (43, .iload_n 1, 1, .inl (0, 0)),
  (44, .iaload, 1, .inl (0, 0)),
  (45, .istore_n 2, 1, .inl (0, 0)),
  (46, .aload_n 0, 1, .inl (0, 0)),
  (47, .getfield 54, 3, .inl (8, 6)),
  (50, .aload_n 0, 1, .inl (0, 0)),
  (51, .getfield 12, 3, .inl (8, 0)),
  (54, .getfield 102, 3, .inl (5, 3)),
  (57, .iload_n 2, 1, .inl (0, 0)),
  (58, .aload_n 0, 1, .inl (0, 0)),
  (59, .getfield 12, 3, .inl (8, 0)),
  (62, .getfield 66, 3, .inl (5, 0)),
  (65, .invokevirtual 207, 3, .inr (.inl g_Fit_changes)),
  (68, .istore_n 3, 1, .inl (0, 0)),
  (69, .iload_n 3, 1, .inl (0, 0)),
  (70, .bipush (-9), 2, .inr (.inr (.inl (-9)))),
  (72, .if_icmp .eq 28, 3, .inl (100, 0)),
  (75, .aload_n 0, 1, .inl (0, 0)),
  (76, .getfield 12, 3, .inl (8, 0)),
  (79, .getfield 102, 3, .inl (5, 3)),
  (82, .aload_n 0, 1, .inl (0, 0)),
  (83, .getfield 54, 3, .inl (8, 6)),
  (86, .invokevirtual 211, 3, .inr (.inl g_Fit_firstRow)),
  (89, .iload_n 2, 1, .inl (0, 0)),
  (90, .aload_n 0, 1, .inl (0, 0)),
  (91, .getfield 12, 3, .inl (8, 0)),
  (94, .getfield 66, 3, .inl (5, 0)),
  (97, .invokevirtual 215, 3, .inr (.inl g_Poem_rewrite)),
  (100, .iload_n 3, 1, .inl (0, 0)),
  (101, .ireturn, 1, .inl (0, 0))]
set_option maxRecDepth 100000 in
set_option maxHeartbeats 4000000 in
theorem ok_TV_mend : xOK g_TV_mend k_TV_mend := ⟨by decide +kernel, by decide +kernel, List.forall_mem_cons.mpr ⟨trivial, List.forall_mem_cons.mpr ⟨⟨ml_TV_116, xms_TV_isRegister⟩, List.forall_mem_cons.mpr ⟨trivial, List.forall_mem_cons.mpr ⟨trivial, List.forall_mem_cons.mpr ⟨trivial, List.forall_mem_cons.mpr ⟨trivial, List.forall_mem_cons.mpr ⟨fl_TV_12, List.forall_mem_cons.mpr ⟨fl_TV_102, List.forall_mem_cons.mpr ⟨fl_TV_113, List.forall_mem_cons.mpr ⟨trivial, List.forall_mem_cons.mpr ⟨trivial, List.forall_mem_cons.mpr ⟨trivial, List.forall_mem_cons.mpr ⟨trivial, List.forall_mem_cons.mpr ⟨fl_TV_19, List.forall_mem_cons.mpr ⟨trivial, List.forall_mem_cons.mpr ⟨fl_TV_12, List.forall_mem_cons.mpr ⟨⟨ml_TV_62, xmv_Hist_remember⟩, List.forall_mem_cons.mpr ⟨trivial, List.forall_mem_cons.mpr ⟨fl_TV_12, List.forall_mem_cons.mpr ⟨fl_TV_133, List.forall_mem_cons.mpr ⟨trivial, List.forall_mem_cons.mpr ⟨trivial, List.forall_mem_cons.mpr ⟨trivial, List.forall_mem_cons.mpr ⟨trivial, List.forall_mem_cons.mpr ⟨fl_TV_54, List.forall_mem_cons.mpr ⟨trivial, List.forall_mem_cons.mpr ⟨fl_TV_12, List.forall_mem_cons.mpr ⟨fl_TV_102, List.forall_mem_cons.mpr ⟨trivial, List.forall_mem_cons.mpr ⟨trivial, List.forall_mem_cons.mpr ⟨fl_TV_12, List.forall_mem_cons.mpr ⟨fl_TV_66, List.forall_mem_cons.mpr ⟨⟨ml_TV_207, xmv_Fit_changes⟩, List.forall_mem_cons.mpr ⟨trivial, List.forall_mem_cons.mpr ⟨trivial, List.forall_mem_cons.mpr ⟨trivial, List.forall_mem_cons.mpr ⟨trivial, List.forall_mem_cons.mpr ⟨trivial, List.forall_mem_cons.mpr ⟨fl_TV_12, List.forall_mem_cons.mpr ⟨fl_TV_102, List.forall_mem_cons.mpr ⟨trivial, List.forall_mem_cons.mpr ⟨fl_TV_54, List.forall_mem_cons.mpr ⟨⟨ml_TV_211, xmv_Fit_firstRow⟩, List.forall_mem_cons.mpr ⟨trivial, List.forall_mem_cons.mpr ⟨trivial, List.forall_mem_cons.mpr ⟨fl_TV_12, List.forall_mem_cons.mpr ⟨fl_TV_66, List.forall_mem_cons.mpr ⟨⟨ml_TV_215, xmv_Poem_rewrite⟩, List.forall_mem_cons.mpr ⟨trivial, List.forall_mem_cons.mpr ⟨trivial, fun _ h => absurd h List.not_mem_nil⟩⟩⟩⟩⟩⟩⟩⟩⟩⟩⟩⟩⟩⟩⟩⟩⟩⟩⟩⟩⟩⟩⟩⟩⟩⟩⟩⟩⟩⟩⟩⟩⟩⟩⟩⟩⟩⟩⟩⟩⟩⟩⟩⟩⟩⟩⟩⟩⟩⟩⟩
def k_TV_best : xCd := [
  (0, .iload_n 1, 1, .inl (0, 0)),
  (1, .invokestatic 116, 3, .inr (.inl g_TV_isRegister)),
  (4, .ifCond .ne 5, 3, .inl (9, 0)),
  (7, .iconst (-1), 1, .inr (.inr (.inl (-1)))),
  (8, .ireturn, 1, .inl (0, 0)),
  (9, .aload_n 0, 1, .inl (0, 0)),
  (10, .getfield 12, 3, .inl (8, 0)),
  (13, .getfield 102, 3, .inl (5, 3)),
  (16, .getfield 113, 3, .inl (2, 0)),
  (19, .ifCond .ne 6, 3, .inl (25, 0)),
  (22, .bipush (-2), 2, .inr (.inr (.inl (-2)))),
  (24, .ireturn, 1, .inl (0, 0)),
  (25, .aload_n 0, 1, .inl (0, 0)),
  (26, .getfield 19, 3, .inl (8, 1)),
  (29, .aload_n 0, 1, .inl (0, 0)),
  (30, .getfield 12, 3, .inl (8, 0)),
  (33, .invokevirtual 62, 3, .inr (.inl g_Hist_remember)),
  (36, .aload_n 0, 1, .inl (0, 0)),
  (37, .getfield 54, 3, .inl (8, 6)),
  (40, .aload_n 0, 1, .inl (0, 0)),
  (41, .getfield 12, 3, .inl (8, 0)),
  (44, .getfield 102, 3, .inl (5, 3)),
  (47, .aload_n 0, 1, .inl (0, 0)),
  (48, .getfield 12, 3, .inl (8, 0)),
  (51, .getfield 66, 3, .inl (5, 0)),
  (54, .invokevirtual 219, 3, .inr (.inl g_Fit_bestPermutation)),
  (57, .istore_n 2, 1, .inl (0, 0)),
  (58, .iload_n 2, 1, .inl (0, 0)),
  (59, .iconst (-1), 1, .inr (.inr (.inl (-1)))),
  (60, .if_icmp .ne 6, 3, .inl (66, 0)),
  (63, .bipush (-9), 2, .inr (.inr (.inl (-9)))),
  (65, .ireturn, 1, .inl (0, 0)),
  (66, .aload_n 0, 1, .inl (0, 0)),
  (67, .getfield 12, 3, .inl (8, 0)),
  (70, .getfield 133, 3, .inl (5, 2)),
  (73, .iload_n 1, 1, .inl (0, 0)),
  (74, .iload_n 2, 1, .inl (0, 0)),
  (75, .iastore, 1, .inl (0, 0)),
  (76, .aload_n 0, 1, .inl (0, 0)),
  (77, .getfield 54, 3, .inl (8, 6)),
  (80, .aload_n 0, 1, .inl (0, 0)),
  (81, .getfield 12, 3, .inl (8, 0)),
  (84, .getfield 102, 3, .inl (5, 3)),
  (87, .iload_n 2, 1, .inl (0, 0)),
  (88, .aload_n 0, 1, .inl (0, 0)),
  (89, .getfield 12, 3, .inl (8, 0)),
  (92, .getfield 66, 3, .inl (5, 0)),
  (95, .invokevirtual 207, 3, .inr (.inl g_Fit_changes)),
  (98, .ireturn, 1, .inl (0, 0))]
set_option maxRecDepth 100000 in
set_option maxHeartbeats 4000000 in
theorem ok_TV_best : xOK g_TV_best k_TV_best := ⟨by decide +kernel, by decide +kernel, List.forall_mem_cons.mpr ⟨trivial, List.forall_mem_cons.mpr ⟨⟨ml_TV_116, xms_TV_isRegister⟩, List.forall_mem_cons.mpr ⟨trivial, List.forall_mem_cons.mpr ⟨trivial, List.forall_mem_cons.mpr ⟨trivial, List.forall_mem_cons.mpr ⟨trivial, List.forall_mem_cons.mpr ⟨fl_TV_12, List.forall_mem_cons.mpr ⟨fl_TV_102, List.forall_mem_cons.mpr ⟨fl_TV_113, List.forall_mem_cons.mpr ⟨trivial, List.forall_mem_cons.mpr ⟨trivial, List.forall_mem_cons.mpr ⟨trivial, List.forall_mem_cons.mpr ⟨trivial, List.forall_mem_cons.mpr ⟨fl_TV_19, List.forall_mem_cons.mpr ⟨trivial, List.forall_mem_cons.mpr ⟨fl_TV_12, List.forall_mem_cons.mpr ⟨⟨ml_TV_62, xmv_Hist_remember⟩, List.forall_mem_cons.mpr ⟨trivial, List.forall_mem_cons.mpr ⟨fl_TV_54, List.forall_mem_cons.mpr ⟨trivial, List.forall_mem_cons.mpr ⟨fl_TV_12, List.forall_mem_cons.mpr ⟨fl_TV_102, List.forall_mem_cons.mpr ⟨trivial, List.forall_mem_cons.mpr ⟨fl_TV_12, List.forall_mem_cons.mpr ⟨fl_TV_66, List.forall_mem_cons.mpr ⟨⟨ml_TV_219, xmv_Fit_bestPermutation⟩, List.forall_mem_cons.mpr ⟨trivial, List.forall_mem_cons.mpr ⟨trivial, List.forall_mem_cons.mpr ⟨trivial, List.forall_mem_cons.mpr ⟨trivial, List.forall_mem_cons.mpr ⟨trivial, List.forall_mem_cons.mpr ⟨trivial, List.forall_mem_cons.mpr ⟨trivial, List.forall_mem_cons.mpr ⟨fl_TV_12, List.forall_mem_cons.mpr ⟨fl_TV_133, List.forall_mem_cons.mpr ⟨trivial, List.forall_mem_cons.mpr ⟨trivial, List.forall_mem_cons.mpr ⟨trivial, List.forall_mem_cons.mpr ⟨trivial, List.forall_mem_cons.mpr ⟨fl_TV_54, List.forall_mem_cons.mpr ⟨trivial, List.forall_mem_cons.mpr ⟨fl_TV_12, List.forall_mem_cons.mpr ⟨fl_TV_102, List.forall_mem_cons.mpr ⟨trivial, List.forall_mem_cons.mpr ⟨trivial, List.forall_mem_cons.mpr ⟨fl_TV_12, List.forall_mem_cons.mpr ⟨fl_TV_66, List.forall_mem_cons.mpr ⟨⟨ml_TV_207, xmv_Fit_changes⟩, List.forall_mem_cons.mpr ⟨trivial, fun _ h => absurd h List.not_mem_nil⟩⟩⟩⟩⟩⟩⟩⟩⟩⟩⟩⟩⟩⟩⟩⟩⟩⟩⟩⟩⟩⟩⟩⟩⟩⟩⟩⟩⟩⟩⟩⟩⟩⟩⟩⟩⟩⟩⟩⟩⟩⟩⟩⟩⟩⟩⟩⟩⟩⟩
def k_TV_told : xCd := [
  (0, .iload_n 1, 1, .inl (0, 0)),
  (1, .ifCond .lt 9, 3, .inl (10, 0)),
  (4, .iload_n 1, 1, .inl (0, 0)),
  (5, .bipush 6, 2, .inr (.inr (.inl (nI 6)))),
  (7, .if_icmp .lt 5, 3, .inl (12, 0)),
  (10, .iconst (-1), 1, .inr (.inr (.inl (-1)))),
  (11, .ireturn, 1, .inl (0, 0)),
  (12, .iload_n 1, 1, .inl (0, 0)),
  (13, .tableswitch 91 0 4 #[35, 43, 54, 72, 83], 35, .inr (.inr (.inr (.inr (104, [(nI 0, 48), (nI 1, 56), (nI 2, 67), (nI 3, 85), (nI 4, 96)]))))),
  (48, .aload_n 0, 1, .inl (0, 0)),
  (49, .getfield 12, 3, .inl (8, 0)),
  (52, .getfield 66, 3, .inl (5, 0)),
  (55, .ireturn, 1, .inl (0, 0)),
  (56, .aload_n 0, 1, .inl (0, 0)),
  (57, .getfield 12, 3, .inl (8, 0)),
  (60, .getfield 102, 3, .inl (5, 3)),
  (63, .getfield 113, 3, .inl (2, 0)),
  (66, .ireturn, 1, .inl (0, 0)),
  (67, .aload_n 0, 1, .inl (0, 0)),
  (68, .getfield 12, 3, .inl (8, 0)),
  (71, .getfield 102, 3, .inl (5, 3)),
  (74, .aload_n 0, 1, .inl (0, 0)),
  (75, .getfield 12, 3, .inl (8, 0)),
  (78, .getfield 66, 3, .inl (5, 0)),
  (81, .invokevirtual 258, 3, .inr (.inl g_Poem_properStanzas)),
  (84, .ireturn, 1, .inl (0, 0)),
  (85, .aload_n 0, 1, .inl (0, 0)),
  (86, .getfield 12, 3, .inl (8, 0)),
  (89, .getfield 102, 3, .inl (5, 3)),
  (92, .invokevirtual 261, 3, .inr (.inl g_Poem_lockedPlaces)),
  (95, .ireturn, 1, .inl (0, 0)),
  (96, .aload_n 0, 1, .inl (0, 0)),
  (97, .getfield 26, 3, .inl (8, 2)),
  (100, .getfield 91, 3, .inl (6, 0)),
  (103, .ireturn, 1, .inl (0, 0)),
  (104, .aload_n 0, 1, .inl (0, 0)),
  (105, .getfield 19, 3, .inl (8, 1)),
  (108, .getfield 264, 3, .inl (1, 0)),
  (111, .ireturn, 1, .inl (0, 0))]
set_option maxRecDepth 100000 in
set_option maxHeartbeats 4000000 in
theorem ok_TV_told : xOK g_TV_told k_TV_told := ⟨by decide +kernel, by decide +kernel, List.forall_mem_cons.mpr ⟨trivial, List.forall_mem_cons.mpr ⟨trivial, List.forall_mem_cons.mpr ⟨trivial, List.forall_mem_cons.mpr ⟨trivial, List.forall_mem_cons.mpr ⟨trivial, List.forall_mem_cons.mpr ⟨trivial, List.forall_mem_cons.mpr ⟨trivial, List.forall_mem_cons.mpr ⟨trivial, List.forall_mem_cons.mpr ⟨trivial, List.forall_mem_cons.mpr ⟨trivial, List.forall_mem_cons.mpr ⟨fl_TV_12, List.forall_mem_cons.mpr ⟨fl_TV_66, List.forall_mem_cons.mpr ⟨trivial, List.forall_mem_cons.mpr ⟨trivial, List.forall_mem_cons.mpr ⟨fl_TV_12, List.forall_mem_cons.mpr ⟨fl_TV_102, List.forall_mem_cons.mpr ⟨fl_TV_113, List.forall_mem_cons.mpr ⟨trivial, List.forall_mem_cons.mpr ⟨trivial, List.forall_mem_cons.mpr ⟨fl_TV_12, List.forall_mem_cons.mpr ⟨fl_TV_102, List.forall_mem_cons.mpr ⟨trivial, List.forall_mem_cons.mpr ⟨fl_TV_12, List.forall_mem_cons.mpr ⟨fl_TV_66, List.forall_mem_cons.mpr ⟨⟨ml_TV_258, xmv_Poem_properStanzas⟩, List.forall_mem_cons.mpr ⟨trivial, List.forall_mem_cons.mpr ⟨trivial, List.forall_mem_cons.mpr ⟨fl_TV_12, List.forall_mem_cons.mpr ⟨fl_TV_102, List.forall_mem_cons.mpr ⟨⟨ml_TV_261, xmv_Poem_lockedPlaces⟩, List.forall_mem_cons.mpr ⟨trivial, List.forall_mem_cons.mpr ⟨trivial, List.forall_mem_cons.mpr ⟨fl_TV_26, List.forall_mem_cons.mpr ⟨fl_TV_91, List.forall_mem_cons.mpr ⟨trivial, List.forall_mem_cons.mpr ⟨trivial, List.forall_mem_cons.mpr ⟨fl_TV_19, List.forall_mem_cons.mpr ⟨fl_TV_264, List.forall_mem_cons.mpr ⟨trivial, fun _ h => absurd h List.not_mem_nil⟩⟩⟩⟩⟩⟩⟩⟩⟩⟩⟩⟩⟩⟩⟩⟩⟩⟩⟩⟩⟩⟩⟩⟩⟩⟩⟩⟩⟩⟩⟩⟩⟩⟩⟩⟩⟩⟩⟩⟩
def k_TV_undo : xCd := [
  (0, .aload_n 0, 1, .inl (0, 0)),
  (1, .getfield 19, 3, .inl (8, 1)),
  (4, .getfield 264, 3, .inl (1, 0)),
  (7, .ifCond .ne 6, 3, .inl (13, 0)),
  (10, .bipush (-2), 2, .inr (.inr (.inl (-2)))),
  (12, .ireturn, 1, .inl (0, 0)),
  (13, .aload_n 0, 1, .inl (0, 0)),
  (14, .getfield 19, 3, .inl (8, 1)),
  (17, .aload_n 0, 1, .inl (0, 0)),
  (18, .getfield 12, 3, .inl (8, 0)),
  (21, .invokevirtual 265, 3, .inr (.inl g_Hist_restore)),
  (24, .aload_n 0, 1, .inl (0, 0)),
  (25, .getfield 19, 3, .inl (8, 1)),
  (28, .getfield 264, 3, .inl (1, 0)),
  (31, .ireturn, 1, .inl (0, 0))]
set_option maxRecDepth 100000 in
set_option maxHeartbeats 4000000 in
theorem ok_TV_undo : xOK g_TV_undo k_TV_undo := ⟨by decide +kernel, by decide +kernel, List.forall_mem_cons.mpr ⟨trivial, List.forall_mem_cons.mpr ⟨fl_TV_19, List.forall_mem_cons.mpr ⟨fl_TV_264, List.forall_mem_cons.mpr ⟨trivial, List.forall_mem_cons.mpr ⟨trivial, List.forall_mem_cons.mpr ⟨trivial, List.forall_mem_cons.mpr ⟨trivial, List.forall_mem_cons.mpr ⟨fl_TV_19, List.forall_mem_cons.mpr ⟨trivial, List.forall_mem_cons.mpr ⟨fl_TV_12, List.forall_mem_cons.mpr ⟨⟨ml_TV_265, xmv_Hist_restore⟩, List.forall_mem_cons.mpr ⟨trivial, List.forall_mem_cons.mpr ⟨fl_TV_19, List.forall_mem_cons.mpr ⟨fl_TV_264, List.forall_mem_cons.mpr ⟨trivial, fun _ h => absurd h List.not_mem_nil⟩⟩⟩⟩⟩⟩⟩⟩⟩⟩⟩⟩⟩⟩⟩⟩
end
section
/-! CODE, decoded, with its links; checked once -/
def k_Law_cell : xCd := [
  (0, .iload_n 1, 1, .inl (0, 0)),
  (1, .aload_n 0, 1, .inl (0, 0)),
  (2, .arraylength, 1, .inl (0, 0)),
  (3, .if_icmp .ge 9, 3, .inl (12, 0)),
  (6, .aload_n 0, 1, .inl (0, 0)),
  (7, .iload_n 1, 1, .inl (0, 0)),
  (8, .iaload, 1, .inl (0, 0)),
  (9, .goto 11, 3, .inl (20, 0)),
  (12, .ldc 7, 2, .inr (.inr (.inl (nI 15486101)))),
  (14, .iload_n 1, 1, .inl (0, 0)),
  (15, .imul, 1, .inl (0, 0)),
  (16, .sipush 1301, 3, .inr (.inr (.inl (nI 1301)))),
  (19, .iadd, 1, .inl (0, 0)),
  (20, .ldc 8, 2, .inr (.inr (.inl (nI 2147483647)))),
  (22, .iand, 1, .inl (0, 0)),
  (23, .ireturn, 1, .inl (0, 0))]
set_option maxRecDepth 100000 in
set_option maxHeartbeats 4000000 in
theorem ok_Law_cell : xOK g_Law_cell k_Law_cell := ⟨by decide +kernel, by decide +kernel, List.forall_mem_cons.mpr ⟨trivial, List.forall_mem_cons.mpr ⟨trivial, List.forall_mem_cons.mpr ⟨trivial, List.forall_mem_cons.mpr ⟨trivial, List.forall_mem_cons.mpr ⟨trivial, List.forall_mem_cons.mpr ⟨trivial, List.forall_mem_cons.mpr ⟨trivial, List.forall_mem_cons.mpr ⟨trivial, List.forall_mem_cons.mpr ⟨lw_gm 336 rfl rfl, List.forall_mem_cons.mpr ⟨trivial, List.forall_mem_cons.mpr ⟨trivial, List.forall_mem_cons.mpr ⟨trivial, List.forall_mem_cons.mpr ⟨trivial, List.forall_mem_cons.mpr ⟨lw_gm 337 rfl rfl, List.forall_mem_cons.mpr ⟨trivial, List.forall_mem_cons.mpr ⟨trivial, fun _ h => absurd h List.not_mem_nil⟩⟩⟩⟩⟩⟩⟩⟩⟩⟩⟩⟩⟩⟩⟩⟩⟩
def k_Law_all : xCd := [
  (0, .iconst 1, 1, .inr (.inr (.inl (nI 1)))),
  (1, .istore_n 1, 1, .inl (0, 0)),
  (2, .iconst 2, 1, .inr (.inr (.inl (nI 2)))),
  (3, .istore_n 2, 1, .inl (0, 0)),
  (4, .iload_n 2, 1, .inl (0, 0)),
  (5, .iload_n 0, 1, .inl (0, 0)),
  (6, .if_icmp .gt 13, 3, .inl (19, 0)),
  (9, .iload_n 1, 1, .inl (0, 0)),
  (10, .iload_n 2, 1, .inl (0, 0)),
  (11, .imul, 1, .inl (0, 0)),
  (12, .istore_n 1, 1, .inl (0, 0)),
  (13, .iinc 2 1, 3, .inr (.inr (.inl (nI 1)))),
  (16, .goto (-12), 3, .inl (4, 0)),
  (19, .iload_n 1, 1, .inl (0, 0)),
  (20, .ireturn, 1, .inl (0, 0))]
set_option maxRecDepth 100000 in
set_option maxHeartbeats 4000000 in
theorem ok_Law_all : xOK g_Law_all k_Law_all := ⟨by decide +kernel, by decide +kernel, List.forall_mem_cons.mpr ⟨trivial, List.forall_mem_cons.mpr ⟨trivial, List.forall_mem_cons.mpr ⟨trivial, List.forall_mem_cons.mpr ⟨trivial, List.forall_mem_cons.mpr ⟨trivial, List.forall_mem_cons.mpr ⟨trivial, List.forall_mem_cons.mpr ⟨trivial, List.forall_mem_cons.mpr ⟨trivial, List.forall_mem_cons.mpr ⟨trivial, List.forall_mem_cons.mpr ⟨trivial, List.forall_mem_cons.mpr ⟨trivial, List.forall_mem_cons.mpr ⟨trivial, List.forall_mem_cons.mpr ⟨trivial, List.forall_mem_cons.mpr ⟨trivial, List.forall_mem_cons.mpr ⟨trivial, fun _ h => absurd h List.not_mem_nil⟩⟩⟩⟩⟩⟩⟩⟩⟩⟩⟩⟩⟩⟩⟩⟩
def k_Law_powers : xCd := [
  (0, .aload_n 0, 1, .inl (0, 0)),
  (1, .iconst 0, 1, .inr (.inr (.inl (nI 0)))),
  (2, .iconst 1, 1, .inr (.inr (.inl (nI 1)))),
  (3, .invokevirtual 15, 3, .inr (.inl g_TV_turn)),
  (6, .istore 4, 2, .inl (0, 0)),
  (8, .aload_n 0, 1, .inl (0, 0)),
  (9, .iconst 0, 1, .inr (.inr (.inl (nI 0)))),
  (10, .iload 4, 2, .inl (0, 0)),
  (12, .iconst 5, 1, .inr (.inr (.inl (nI 5)))),
  (13, .invokevirtual 21, 3, .inr (.inl g_TV_power)),
  (16, .ifCond .ne 37, 3, .inl (53, 0)),
  (19, .aload_n 0, 1, .inl (0, 0)),
  (20, .iconst 5, 1, .inr (.inr (.inl (nI 5)))),
  (21, .iconst 2, 1, .inr (.inr (.inl (nI 2)))),
  (22, .invokevirtual 15, 3, .inr (.inl g_TV_turn)),
  (25, .iload_n 1, 1, .inl (0, 0)),
  (26, .if_icmp .ne 27, 3, .inl (53, 0)),
  (29, .aload_n 0, 1, .inl (0, 0)),
  (30, .iconst 5, 1, .inr (.inr (.inl (nI 5)))),
  (31, .iconst 3, 1, .inr (.inr (.inl (nI 3)))),
  (32, .invokevirtual 15, 3, .inr (.inl g_TV_turn)),
  (35, .iload_n 1, 1, .inl (0, 0)),
  (36, .if_icmp .ne 17, 3, .inl (53, 0)),
  (39, .aload_n 0, 1, .inl (0, 0)),
  (40, .iconst 1, 1, .inr (.inr (.inl (nI 1)))),
  (41, .invokevirtual 25, 3, .inr (.inl g_TV_generated)),
  (44, .iload 4, 2, .inl (0, 0)),
  (46, .if_icmp .ne 7, 3, .inl (53, 0)),
  (49, .iconst 1, 1, .inr (.inr (.inl (nI 1)))),
  (50, .goto 4, 3, .inl (54, 0)),
  (53, .iconst 0, 1, .inr (.inr (.inl (nI 0)))),
  (54, .istore 5, 2, .inl (0, 0)),
  (56, .iconst 1, 1, .inr (.inr (.inl (nI 1)))),
  (57, .istore 6, 2, .inl (0, 0)),
  (59, .iload 6, 2, .inl (0, 0)),
  (61, .iload 4, 2, .inl (0, 0)),
  (63, .if_icmp .ge 32, 3, .inl (95, 0)),
  (66, .iload 5, 2, .inl (0, 0)),
  (68, .ifCond .eq 27, 3, .inl (95, 0)),
  (71, .aload_n 0, 1, .inl (0, 0)),
  (72, .iconst 0, 1, .inr (.inr (.inl (nI 0)))),
  (73, .iload 6, 2, .inl (0, 0)),
  (75, .iconst 5, 1, .inr (.inr (.inl (nI 5)))),
  (76, .invokevirtual 21, 3, .inr (.inl g_TV_power)),
  (79, .ifCond .eq 7, 3, .inl (86, 0)),
  (82, .iconst 1, 1, .inr (.inr (.inl (nI 1)))),
  (83, .goto 4, 3, .inl (87, 0)),
  (86, .iconst 0, 1, .inr (.inr (.inl (nI 0)))),
  (87, .istore 5, 2, .inl (0, 0)),
  (89, .iinc 6 1, 3, .inr (.inr (.inl (nI 1)))),
  (92, .goto (-33), 3, .inl (59, 0)),
  (95, .iload 5, 2, .inl (0, 0)),
  (97, .ifCond .eq 37, 3, .inl (134, 0)),
  (100, .aload_n 0, 1, .inl (0, 0)),
  (101, .iconst 0, 1, .inr (.inr (.inl (nI 0)))),
  (102, .iconst (-1), 1, .inr (.inr (.inl (-1)))),
  (103, .iconst 2, 1, .inr (.inr (.inl (nI 2)))),
  (104, .invokevirtual 21, 3, .inr (.inl g_TV_power)),
  (107, .ifCond .lt 27, 3, .inl (134, 0)),
  (110, .aload_n 0, 1, .inl (0, 0)),
  (111, .iconst 0, 1, .inr (.inr (.inl (nI 0)))),
  (112, .iconst 2, 1, .inr (.inr (.inl (nI 2)))),
  (113, .iconst 5, 1, .inr (.inr (.inl (nI 5)))),
  (114, .invokevirtual 28, 3, .inr (.inl g_TV_product)),
  (117, .ifCond .ne 17, 3, .inl (134, 0)),
  (120, .aload_n 0, 1, .inl (0, 0)),
  (121, .iconst 1, 1, .inr (.inr (.inl (nI 1)))),
  (122, .iconst (-1), 1, .inr (.inr (.inl (-1)))),
  (123, .iconst 3, 1, .inr (.inr (.inl (nI 3)))),
  (124, .invokevirtual 21, 3, .inr (.inl g_TV_power)),
  (127, .ifCond .lt 7, 3, .inl (134, 0)),
  (130, .iconst 1, 1, .inr (.inr (.inl (nI 1)))),
  (131, .goto 4, 3, .inl (135, 0)),
  (134, .iconst 0, 1, .inr (.inr (.inl (nI 0)))),
  (135, .istore 5, 2, .inl (0, 0)),
  (137, .aload_n 0, 1, .inl (0, 0)),
  (138, .iconst 0, 1, .inr (.inr (.inl (nI 0)))),
  (139, .iconst 1, 1, .inr (.inr (.inl (nI 1)))),
  (140, .iconst 4, 1, .inr (.inr (.inl (nI 4)))),
  (141, .invokevirtual 28, 3, .inr (.inl g_TV_product)),
  (144, .istore 6, 2, .inl (0, 0)),
  (146, .iload 5, 2, .inl (0, 0)),
  (148, .ifCond .eq 36, 3, .inl (184, 0)),
  (151, .aload_n 0, 1, .inl (0, 0)),
  (152, .iconst 3, 1, .inr (.inr (.inl (nI 3)))),
  (153, .iconst 2, 1, .inr (.inr (.inl (nI 2)))),
  (154, .iconst 5, 1, .inr (.inr (.inl (nI 5)))),
  (155, .invokevirtual 28, 3, .inr (.inl g_TV_product)),
  (158, .aload_n 0, 1, .inl (0, 0)),
  (159, .iconst 4, 1, .inr (.inr (.inl (nI 4)))),
  (160, .iconst (-1), 1, .inr (.inr (.inl (-1)))),
  (161, .iconst 5, 1, .inr (.inr (.inl (nI 5)))),
  (162, .invokevirtual 21, 3, .inr (.inl g_TV_power)),
  (165, .if_icmp .ne 19, 3, .inl (184, 0)),
  (168, .aload_n 0, 1, .inl (0, 0)),
  (169, .iconst 5, 1, .inr (.inr (.inl (nI 5)))),
  (170, .iconst (-1), 1, .inr (.inr (.inl (-1)))),
  (171, .iconst 5, 1, .inr (.inr (.inl (nI 5)))),
  (172, .invokevirtual 21, 3, .inr (.inl g_TV_power)),
  (175, .iload 6, 2, .inl (0, 0)),
  (177, .if_icmp .ne 7, 3, .inl (184, 0)),
  (180, .iconst 1, 1, .inr (.inr (.inl (nI 1)))),
  (181, .goto 4, 3, .inl (185, 0)),
  (184, .iconst 0, 1, .inr (.inr (.inl (nI 0)))),
  (185, .istore 5, 2, .inl (0, 0)),
  (187, .iload 5, 2, .inl (0, 0)),
  (189, .ifCond .eq 43, 3, .inl (232, 0)),
  (192, .aload_n 0, 1, .inl (0, 0)),
  (193, .iconst 0, 1, .inr (.inr (.inl (nI 0)))),
  (194, .iconst 1, 1, .inr (.inr (.inl (nI 1)))),
  (195, .iconst 5, 1, .inr (.inr (.inl (nI 5)))),
  (196, .invokevirtual 28, 3, .inr (.inl g_TV_product)),
  (199, .iload 6, 2, .inl (0, 0)),
  (201, .if_icmp .ne 31, 3, .inl (232, 0)),
  (204, .aload_n 0, 1, .inl (0, 0)),
  (205, .iconst 5, 1, .inr (.inr (.inl (nI 5)))),
  (206, .iconst 5, 1, .inr (.inr (.inl (nI 5)))),
  (207, .invokevirtual 15, 3, .inr (.inl g_TV_turn)),
  (210, .aload_n 0, 1, .inl (0, 0)),
  (211, .iconst 0, 1, .inr (.inr (.inl (nI 0)))),
  (212, .iconst 5, 1, .inr (.inr (.inl (nI 5)))),
  (213, .invokevirtual 15, 3, .inr (.inl g_TV_turn)),
  (216, .aload_n 0, 1, .inl (0, 0)),
  (217, .iconst 1, 1, .inr (.inr (.inl (nI 1)))),
  (218, .iconst 5, 1, .inr (.inr (.inl (nI 5)))),
  (219, .invokevirtual 15, 3, .inr (.inl g_TV_turn)),
  (222, .iadd, 1, .inl (0, 0)),
  (223, .iconst 2, 1, .inr (.inr (.inl (nI 2)))),
  (224, .irem, 1, .inl (0, 0)),
  (225, .if_icmp .ne 7, 3, .inl (232, 0)),
  (228, .iconst 1, 1, .inr (.inr (.inl (nI 1)))),
  (229, .goto 4, 3, .inl (233, 0)),
  (232, .iconst 0, 1, .inr (.inr (.inl (nI 0)))),
  (233, .istore 5, 2, .inl (0, 0)),
  (235, .iload 5, 2, .inl (0, 0)),
  (237, .ifCond .eq 54, 3, .inl (291, 0)),
  (240, .aload_n 0, 1, .inl (0, 0)),
  (241, .iconst 1, 1, .inr (.inr (.inl (nI 1)))),
  (242, .iconst 0, 1, .inr (.inr (.inl (nI 0)))),
  (243, .iconst 5, 1, .inr (.inr (.inl (nI 5)))),
  (244, .invokevirtual 28, 3, .inr (.inl g_TV_product)),
  (247, .ifCond .lt 44, 3, .inl (291, 0)),
  (250, .aload_n 0, 1, .inl (0, 0)),
  (251, .iconst 5, 1, .inr (.inr (.inl (nI 5)))),
  (252, .bipush 6, 2, .inr (.inr (.inl (nI 6)))),
  (254, .invokevirtual 15, 3, .inr (.inl g_TV_turn)),
  (257, .aload_n 0, 1, .inl (0, 0)),
  (258, .iconst 4, 1, .inr (.inr (.inl (nI 4)))),
  (259, .bipush 6, 2, .inr (.inr (.inl (nI 6)))),
  (261, .invokevirtual 15, 3, .inr (.inl g_TV_turn)),
  (264, .if_icmp .ne 27, 3, .inl (291, 0)),
  (267, .aload_n 0, 1, .inl (0, 0)),
  (268, .iconst 0, 1, .inr (.inr (.inl (nI 0)))),
  (269, .iconst 0, 1, .inr (.inr (.inl (nI 0)))),
  (270, .invokevirtual 15, 3, .inr (.inl g_TV_turn)),
  (273, .iload_n 2, 1, .inl (0, 0)),
  (274, .if_icmp .ne 17, 3, .inl (291, 0)),
  (277, .aload_n 0, 1, .inl (0, 0)),
  (278, .iconst 1, 1, .inr (.inr (.inl (nI 1)))),
  (279, .iconst 0, 1, .inr (.inr (.inl (nI 0)))),
  (280, .invokevirtual 15, 3, .inr (.inl g_TV_turn)),
  (283, .iload_n 3, 1, .inl (0, 0)),
  (284, .if_icmp .ne 7, 3, .inl (291, 0)),
  (287, .iconst 1, 1, .inr (.inr (.inl (nI 1)))),
  (288, .goto 4, 3, .inl (292, 0)),
  (291, .iconst 0, 1, .inr (.inr (.inl (nI 0)))),
  (292, .ireturn, 1, .inl (0, 0))]
set_option maxRecDepth 100000 in
set_option maxHeartbeats 4000000 in
theorem ok_Law_powers : xOK g_Law_powers k_Law_powers := ⟨by decide +kernel, by decide +kernel, List.forall_mem_cons.mpr ⟨trivial, List.forall_mem_cons.mpr ⟨trivial, List.forall_mem_cons.mpr ⟨trivial, List.forall_mem_cons.mpr ⟨⟨ml_Law_15, xmv_TV_turn⟩, List.forall_mem_cons.mpr ⟨trivial, List.forall_mem_cons.mpr ⟨trivial, List.forall_mem_cons.mpr ⟨trivial, List.forall_mem_cons.mpr ⟨trivial, List.forall_mem_cons.mpr ⟨trivial, List.forall_mem_cons.mpr ⟨⟨ml_Law_21, xmv_TV_power⟩, List.forall_mem_cons.mpr ⟨trivial, List.forall_mem_cons.mpr ⟨trivial, List.forall_mem_cons.mpr ⟨trivial, List.forall_mem_cons.mpr ⟨trivial, List.forall_mem_cons.mpr ⟨⟨ml_Law_15, xmv_TV_turn⟩, List.forall_mem_cons.mpr ⟨trivial, List.forall_mem_cons.mpr ⟨trivial, List.forall_mem_cons.mpr ⟨trivial, List.forall_mem_cons.mpr ⟨trivial, List.forall_mem_cons.mpr ⟨trivial, List.forall_mem_cons.mpr ⟨⟨ml_Law_15, xmv_TV_turn⟩, List.forall_mem_cons.mpr ⟨trivial, List.forall_mem_cons.mpr ⟨trivial, List.forall_mem_cons.mpr ⟨trivial, List.forall_mem_cons.mpr ⟨trivial, List.forall_mem_cons.mpr ⟨⟨ml_Law_25, xmv_TV_generated⟩, List.forall_mem_cons.mpr ⟨trivial, List.forall_mem_cons.mpr ⟨trivial, List.forall_mem_cons.mpr ⟨trivial, List.forall_mem_cons.mpr ⟨trivial, List.forall_mem_cons.mpr ⟨trivial, List.forall_mem_cons.mpr ⟨trivial, List.forall_mem_cons.mpr ⟨trivial, List.forall_mem_cons.mpr ⟨trivial, List.forall_mem_cons.mpr ⟨trivial, List.forall_mem_cons.mpr ⟨trivial, List.forall_mem_cons.mpr ⟨trivial, List.forall_mem_cons.mpr ⟨trivial, List.forall_mem_cons.mpr ⟨trivial, List.forall_mem_cons.mpr ⟨trivial, List.forall_mem_cons.mpr ⟨trivial, List.forall_mem_cons.mpr ⟨trivial, List.forall_mem_cons.mpr ⟨trivial, List.forall_mem_cons.mpr ⟨⟨ml_Law_21, xmv_TV_power⟩, List.forall_mem_cons.mpr ⟨trivial, List.forall_mem_cons.mpr ⟨trivial, List.forall_mem_cons.mpr ⟨trivial, List.forall_mem_cons.mpr ⟨trivial, List.forall_mem_cons.mpr ⟨trivial, List.forall_mem_cons.mpr ⟨trivial, List.forall_mem_cons.mpr ⟨trivial, List.forall_mem_cons.mpr ⟨trivial, List.forall_mem_cons.mpr ⟨trivial, List.forall_mem_cons.mpr ⟨trivial, List.forall_mem_cons.mpr ⟨trivial, List.forall_mem_cons.mpr ⟨trivial, List.forall_mem_cons.mpr ⟨trivial, List.forall_mem_cons.mpr ⟨⟨ml_Law_21, xmv_TV_power⟩, List.forall_mem_cons.mpr ⟨trivial, List.forall_mem_cons.mpr ⟨trivial, List.forall_mem_cons.mpr ⟨trivial, List.forall_mem_cons.mpr ⟨trivial, List.forall_mem_cons.mpr ⟨trivial, List.forall_mem_cons.mpr ⟨⟨ml_Law_28, xmv_TV_product⟩, List.forall_mem_cons.mpr ⟨trivial, List.forall_mem_cons.mpr ⟨trivial, List.forall_mem_cons.mpr ⟨trivial, List.forall_mem_cons.mpr ⟨trivial, List.forall_mem_cons.mpr ⟨trivial, List.forall_mem_cons.mpr ⟨⟨ml_Law_21, xmv_TV_power⟩, List.forall_mem_cons.mpr ⟨trivial, List.forall_mem_cons.mpr ⟨trivial, List.forall_mem_cons.mpr ⟨trivial, List.forall_mem_cons.mpr ⟨trivial, List.forall_mem_cons.mpr ⟨trivial, List.forall_mem_cons.mpr ⟨trivial, List.forall_mem_cons.mpr ⟨trivial, List.forall_mem_cons.mpr ⟨trivial, List.forall_mem_cons.mpr ⟨trivial, List.forall_mem_cons.mpr ⟨⟨ml_Law_28, xmv_TV_product⟩, List.forall_mem_cons.mpr ⟨trivial, List.forall_mem_cons.mpr ⟨trivial, List.forall_mem_cons.mpr ⟨trivial, List.forall_mem_cons.mpr ⟨trivial, List.forall_mem_cons.mpr ⟨trivial, List.forall_mem_cons.mpr ⟨trivial, List.forall_mem_cons.mpr ⟨trivial, List.forall_mem_cons.mpr ⟨⟨ml_Law_28, xmv_TV_product⟩, List.forall_mem_cons.mpr ⟨trivial, List.forall_mem_cons.mpr ⟨trivial, List.forall_mem_cons.mpr ⟨trivial, List.forall_mem_cons.mpr ⟨trivial, List.forall_mem_cons.mpr ⟨⟨ml_Law_21, xmv_TV_power⟩, List.forall_mem_cons.mpr ⟨trivial, List.forall_mem_cons.mpr ⟨trivial, List.forall_mem_cons.mpr ⟨trivial, List.forall_mem_cons.mpr ⟨trivial, List.forall_mem_cons.mpr ⟨trivial, List.forall_mem_cons.mpr ⟨⟨ml_Law_21, xmv_TV_power⟩, List.forall_mem_cons.mpr ⟨trivial, List.forall_mem_cons.mpr ⟨trivial, List.forall_mem_cons.mpr ⟨trivial, List.forall_mem_cons.mpr ⟨trivial, List.forall_mem_cons.mpr ⟨trivial, List.forall_mem_cons.mpr ⟨trivial, List.forall_mem_cons.mpr ⟨trivial, List.forall_mem_cons.mpr ⟨trivial, List.forall_mem_cons.mpr ⟨trivial, List.forall_mem_cons.mpr ⟨trivial, List.forall_mem_cons.mpr ⟨trivial, List.forall_mem_cons.mpr ⟨trivial, List.forall_mem_cons.mpr ⟨⟨ml_Law_28, xmv_TV_product⟩, List.forall_mem_cons.mpr ⟨trivial, List.forall_mem_cons.mpr ⟨trivial, List.forall_mem_cons.mpr ⟨trivial, List.forall_mem_cons.mpr ⟨trivial, List.forall_mem_cons.mpr ⟨trivial, List.forall_mem_cons.mpr ⟨⟨ml_Law_15, xmv_TV_turn⟩, List.forall_mem_cons.mpr ⟨trivial, List.forall_mem_cons.mpr ⟨trivial, List.forall_mem_cons.mpr ⟨trivial, List.forall_mem_cons.mpr ⟨⟨ml_Law_15, xmv_TV_turn⟩, List.forall_mem_cons.mpr ⟨trivial, List.forall_mem_cons.mpr ⟨trivial, List.forall_mem_cons.mpr ⟨trivial, List.forall_mem_cons.mpr ⟨⟨ml_Law_15, xmv_TV_turn⟩, List.forall_mem_cons.mpr ⟨trivial, List.forall_mem_cons.mpr ⟨trivial, List.forall_mem_cons.mpr ⟨trivial, List.forall_mem_cons.mpr ⟨trivial, List.forall_mem_cons.mpr ⟨trivial, List.forall_mem_cons.mpr ⟨trivial, List.forall_mem_cons.mpr ⟨trivial, List.forall_mem_cons.mpr ⟨trivial, List.forall_mem_cons.mpr ⟨trivial, List.forall_mem_cons.mpr ⟨trivial, List.forall_mem_cons.mpr ⟨trivial, List.forall_mem_cons.mpr ⟨trivial, List.forall_mem_cons.mpr ⟨trivial, List.forall_mem_cons.mpr ⟨trivial, List.forall_mem_cons.mpr ⟨⟨ml_Law_28, xmv_TV_product⟩, List.forall_mem_cons.mpr ⟨trivial, List.forall_mem_cons.mpr ⟨trivial, List.forall_mem_cons.mpr ⟨trivial, List.forall_mem_cons.mpr ⟨trivial, List.forall_mem_cons.mpr ⟨⟨ml_Law_15, xmv_TV_turn⟩, List.forall_mem_cons.mpr ⟨trivial, List.forall_mem_cons.mpr ⟨trivial, List.forall_mem_cons.mpr ⟨trivial, List.forall_mem_cons.mpr ⟨⟨ml_Law_15, xmv_TV_turn⟩, List.forall_mem_cons.mpr ⟨trivial, List.forall_mem_cons.mpr ⟨trivial, List.forall_mem_cons.mpr ⟨trivial, List.forall_mem_cons.mpr ⟨trivial, List.forall_mem_cons.mpr ⟨⟨ml_Law_15, xmv_TV_turn⟩, List.forall_mem_cons.mpr ⟨trivial, List.forall_mem_cons.mpr ⟨trivial, List.forall_mem_cons.mpr ⟨trivial, List.forall_mem_cons.mpr ⟨trivial, List.forall_mem_cons.mpr ⟨trivial, List.forall_mem_cons.mpr ⟨⟨ml_Law_15, xmv_TV_turn⟩, List.forall_mem_cons.mpr ⟨trivial, List.forall_mem_cons.mpr ⟨trivial, List.forall_mem_cons.mpr ⟨trivial, List.forall_mem_cons.mpr ⟨trivial, List.forall_mem_cons.mpr ⟨trivial, List.forall_mem_cons.mpr ⟨trivial, fun _ h => absurd h List.not_mem_nil⟩⟩⟩⟩⟩⟩⟩⟩⟩⟩⟩⟩⟩⟩⟩⟩⟩⟩⟩⟩⟩⟩⟩⟩⟩⟩⟩⟩⟩⟩⟩⟩⟩⟩⟩⟩⟩⟩⟩⟩⟩⟩⟩⟩⟩⟩⟩⟩⟩⟩⟩⟩⟩⟩⟩⟩⟩⟩⟩⟩⟩⟩⟩⟩⟩⟩⟩⟩⟩⟩⟩⟩⟩⟩⟩⟩⟩⟩⟩⟩⟩⟩⟩⟩⟩⟩⟩⟩⟩⟩⟩⟩⟩⟩⟩⟩⟩⟩⟩⟩⟩⟩⟩⟩⟩⟩⟩⟩⟩⟩⟩⟩⟩⟩⟩⟩⟩⟩⟩⟩⟩⟩⟩⟩⟩⟩⟩⟩⟩⟩⟩⟩⟩⟩⟩⟩⟩⟩⟩⟩⟩⟩⟩⟩⟩⟩⟩⟩⟩⟩⟩⟩⟩⟩⟩⟩⟩⟩⟩⟩⟩⟩⟩⟩⟩⟩⟩⟩
def k_Law_products : xCd := [
  (0, .aload_n 0, 1, .inl (0, 0)),
  (1, .iconst 3, 1, .inr (.inr (.inl (nI 3)))),
  (2, .invokevirtual 25, 3, .inr (.inl g_TV_generated)),
  (5, .istore_n 3, 1, .inl (0, 0)),
  (6, .iload_n 3, 1, .inl (0, 0)),
  (7, .ifCond .le 38, 3, .inl (45, 0)),
  (10, .iload_n 1, 1, .inl (0, 0)),
  (11, .invokestatic 9, 3, .inr (.inl g_Law_all)),
  (14, .iload_n 3, 1, .inl (0, 0)),
  (15, .irem, 1, .inl (0, 0)),
  (16, .ifCond .ne 29, 3, .inl (45, 0)),
  (19, .iload_n 3, 1, .inl (0, 0)),
  (20, .aload_n 0, 1, .inl (0, 0)),
  (21, .iconst 0, 1, .inr (.inr (.inl (nI 0)))),
  (22, .iconst 1, 1, .inr (.inr (.inl (nI 1)))),
  (23, .invokevirtual 15, 3, .inr (.inl g_TV_turn)),
  (26, .irem, 1, .inl (0, 0)),
  (27, .ifCond .ne 18, 3, .inl (45, 0)),
  (30, .iload_n 3, 1, .inl (0, 0)),
  (31, .aload_n 0, 1, .inl (0, 0)),
  (32, .iconst 1, 1, .inr (.inr (.inl (nI 1)))),
  (33, .iconst 1, 1, .inr (.inr (.inl (nI 1)))),
  (34, .invokevirtual 15, 3, .inr (.inl g_TV_turn)),
  (37, .irem, 1, .inl (0, 0)),
  (38, .ifCond .ne 7, 3, .inl (45, 0)),
  (41, .iconst 1, 1, .inr (.inr (.inl (nI 1)))),
  (42, .goto 4, 3, .inl (46, 0)),
  (45, .iconst 0, 1, .inr (.inr (.inl (nI 0)))),
  (46, .istore 4, 2, .inl (0, 0)),
  (48, .aload_n 0, 1, .inl (0, 0)),
  (49, .iconst 2, 1, .inr (.inr (.inl (nI 2)))),
  (50, .iload_n 2, 1, .inl (0, 0)),
  (51, .iload_n 1, 1, .inl (0, 0)),
  (52, .invokestatic 9, 3, .inr (.inl g_Law_all)),
  (55, .irem, 1, .inl (0, 0)),
  (56, .invokevirtual 31, 3, .inr (.inl g_TV_unrank)),
  (59, .iconst 1, 1, .inr (.inr (.inl (nI 1)))),
  (60, .if_icmp .ge 5, 3, .inl (65, 0)),
  (63, .iconst 0, 1, .inr (.inr (.inl (nI 0)))),
  (64, .ireturn, 1, .inl (0, 0)),
  (65, .aload_n 0, 1, .inl (0, 0)),
  (66, .iconst 3, 1, .inr (.inr (.inl (nI 3)))),
  (67, .iconst 2, 1, .inr (.inr (.inl (nI 2)))),
  (68, .invokevirtual 34, 3, .inr (.inl g_TV_reach)),
  (71, .istore 5, 2, .inl (0, 0)),
  (73, .aload_n 0, 1, .inl (0, 0)),
  (74, .bipush 7, 2, .inr (.inr (.inl (nI 7)))),
  (76, .invokevirtual 25, 3, .inr (.inl g_TV_generated)),
  (79, .istore 6, 2, .inl (0, 0)),
  (81, .iload 5, 2, .inl (0, 0)),
  (83, .ifCond .ge 39, 3, .inl (122, 0)),
  (86, .iload 4, 2, .inl (0, 0)),
  (88, .ifCond .eq 32, 3, .inl (120, 0)),
  (91, .iload 5, 2, .inl (0, 0)),
  (93, .bipush (-9), 2, .inr (.inr (.inl (-9)))),
  (95, .if_icmp .ne 25, 3, .inl (120, 0)),
  (98, .iload 6, 2, .inl (0, 0)),
  (100, .iload_n 3, 1, .inl (0, 0)),
  (101, .if_icmp .le 19, 3, .inl (120, 0)),
  (104, .aload_n 0, 1, .inl (0, 0)),
  (105, .iconst 3, 1, .inr (.inr (.inl (nI 3)))),
  (106, .iconst 2, 1, .inr (.inr (.inl (nI 2)))),
  (107, .iconst 0, 1, .inr (.inr (.inl (nI 0)))),
  (108, .invokevirtual 37, 3, .inr (.inl g_TV_factor)),
  (111, .bipush (-9), 2, .inr (.inr (.inl (-9)))),
  (113, .if_icmp .ne 7, 3, .inl (120, 0)),
  (116, .iconst 1, 1, .inr (.inr (.inl (nI 1)))),
  (117, .goto 4, 3, .inl (121, 0)),
  (120, .iconst 0, 1, .inr (.inr (.inl (nI 0)))),
  (121, .ireturn, 1, .inl (0, 0)),
  (122, .iload 4, 2, .inl (0, 0)),
  (124, .ifCond .eq 29, 3, .inl (153, 0)),
  (127, .iload 6, 2, .inl (0, 0)),
  (129, .iload_n 3, 1, .inl (0, 0)),
  (130, .if_icmp .ne 23, 3, .inl (153, 0)),
  (133, .iload 5, 2, .inl (0, 0)),
  (135, .iload_n 3, 1, .inl (0, 0)),
  (136, .if_icmp .ge 17, 3, .inl (153, 0)),
  (139, .aload_n 0, 1, .inl (0, 0)),
  (140, .iconst 5, 1, .inr (.inr (.inl (nI 5)))),
  (141, .iconst 0, 1, .inr (.inr (.inl (nI 0)))),
  (142, .iconst 0, 1, .inr (.inr (.inl (nI 0)))),
  (143, .invokevirtual 40, 3, .inr (.inl g_TV_make)),
  (146, .ifCond .ne 7, 3, .inl (153, 0)),
  (149, .iconst 1, 1, .inr (.inr (.inl (nI 1)))),
  (150, .goto 4, 3, .inl (154, 0)),
  (153, .iconst 0, 1, .inr (.inr (.inl (nI 0)))),
  (154, .istore 4, 2, .inl (0, 0)),
  (156, .iconst 0, 1, .inr (.inr (.inl (nI 0)))),
  (157, .istore 7, 2, .inl (0, 0)),
  (159, .iload 7, 2, .inl (0, 0)),
  (161, .iload 5, 2, .inl (0, 0)),
  (163, .if_icmp .ge 53, 3, .inl (216, 0)),
  (166, .iload 4, 2, .inl (0, 0)),
  (168, .ifCond .eq 48, 3, .inl (216, 0)),
  (171, .aload_n 0, 1, .inl (0, 0)),
  (172, .iconst 3, 1, .inr (.inr (.inl (nI 3)))),
  (173, .iconst 2, 1, .inr (.inr (.inl (nI 2)))),
  (174, .iload 7, 2, .inl (0, 0)),
  (176, .invokevirtual 37, 3, .inr (.inl g_TV_factor)),
  (179, .istore 8, 2, .inl (0, 0)),
  (181, .iload 8, 2, .inl (0, 0)),
  (183, .ifCond .eq 9, 3, .inl (192, 0)),
  (186, .iload 8, 2, .inl (0, 0)),
  (188, .iconst 1, 1, .inr (.inr (.inl (nI 1)))),
  (189, .if_icmp .ne 18, 3, .inl (207, 0)),
  (192, .aload_n 0, 1, .inl (0, 0)),
  (193, .iconst 5, 1, .inr (.inr (.inl (nI 5)))),
  (194, .iload 8, 2, .inl (0, 0)),
  (196, .iconst 5, 1, .inr (.inr (.inl (nI 5)))),
  (197, .invokevirtual 28, 3, .inr (.inl g_TV_product)),
  (200, .ifCond .lt 7, 3, .inl (207, 0)),
  (203, .iconst 1, 1, .inr (.inr (.inl (nI 1)))),
  (204, .goto 4, 3, .inl (208, 0)),
  (207, .iconst 0, 1, .inr (.inr (.inl (nI 0)))),
  (208, .istore 4, 2, .inl (0, 0)),
  (210, .iinc 7 1, 3, .inr (.inr (.inl (nI 1)))),
  (213, .goto (-54), 3, .inl (159, 0)),
  (216, .iload 4, 2, .inl (0, 0)),
  (218, .ifCond .eq 35, 3, .inl (253, 0)),
  (221, .aload_n 0, 1, .inl (0, 0)),
  (222, .iconst 5, 1, .inr (.inr (.inl (nI 5)))),
  (223, .iconst 0, 1, .inr (.inr (.inl (nI 0)))),
  (224, .invokevirtual 15, 3, .inr (.inl g_TV_turn)),
  (227, .aload_n 0, 1, .inl (0, 0)),
  (228, .iconst 2, 1, .inr (.inr (.inl (nI 2)))),
  (229, .iconst 0, 1, .inr (.inr (.inl (nI 0)))),
  (230, .invokevirtual 15, 3, .inr (.inl g_TV_turn)),
  (233, .if_icmp .ne 20, 3, .inl (253, 0)),
  (236, .aload_n 0, 1, .inl (0, 0)),
  (237, .iconst 3, 1, .inr (.inr (.inl (nI 3)))),
  (238, .iconst 2, 1, .inr (.inr (.inl (nI 2)))),
  (239, .iload 5, 2, .inl (0, 0)),
  (241, .invokevirtual 37, 3, .inr (.inl g_TV_factor)),
  (244, .bipush (-9), 2, .inr (.inr (.inl (-9)))),
  (246, .if_icmp .ne 7, 3, .inl (253, 0)),
  (249, .iconst 1, 1, .inr (.inr (.inl (nI 1)))),
  (250, .goto 4, 3, .inl (254, 0)),
  (253, .iconst 0, 1, .inr (.inr (.inl (nI 0)))),
  (254, .ireturn, 1, .inl (0, 0))]
set_option maxRecDepth 100000 in
set_option maxHeartbeats 4000000 in
theorem ok_Law_products : xOK g_Law_products k_Law_products := ⟨by decide +kernel, by decide +kernel, List.forall_mem_cons.mpr ⟨trivial, List.forall_mem_cons.mpr ⟨trivial, List.forall_mem_cons.mpr ⟨⟨ml_Law_25, xmv_TV_generated⟩, List.forall_mem_cons.mpr ⟨trivial, List.forall_mem_cons.mpr ⟨trivial, List.forall_mem_cons.mpr ⟨trivial, List.forall_mem_cons.mpr ⟨trivial, List.forall_mem_cons.mpr ⟨⟨ml_Law_9, xms_Law_all⟩, List.forall_mem_cons.mpr ⟨trivial, List.forall_mem_cons.mpr ⟨trivial, List.forall_mem_cons.mpr ⟨trivial, List.forall_mem_cons.mpr ⟨trivial, List.forall_mem_cons.mpr ⟨trivial, List.forall_mem_cons.mpr ⟨trivial, List.forall_mem_cons.mpr ⟨trivial, List.forall_mem_cons.mpr ⟨⟨ml_Law_15, xmv_TV_turn⟩, List.forall_mem_cons.mpr ⟨trivial, List.forall_mem_cons.mpr ⟨trivial, List.forall_mem_cons.mpr ⟨trivial, List.forall_mem_cons.mpr ⟨trivial, List.forall_mem_cons.mpr ⟨trivial, List.forall_mem_cons.mpr ⟨trivial, List.forall_mem_cons.mpr ⟨⟨ml_Law_15, xmv_TV_turn⟩, List.forall_mem_cons.mpr ⟨trivial, List.forall_mem_cons.mpr ⟨trivial, List.forall_mem_cons.mpr ⟨trivial, List.forall_mem_cons.mpr ⟨trivial, List.forall_mem_cons.mpr ⟨trivial, List.forall_mem_cons.mpr ⟨trivial, List.forall_mem_cons.mpr ⟨trivial, List.forall_mem_cons.mpr ⟨trivial, List.forall_mem_cons.mpr ⟨trivial, List.forall_mem_cons.mpr ⟨trivial, List.forall_mem_cons.mpr ⟨⟨ml_Law_9, xms_Law_all⟩, List.forall_mem_cons.mpr ⟨trivial, List.forall_mem_cons.mpr ⟨⟨ml_Law_31, xmv_TV_unrank⟩, List.forall_mem_cons.mpr ⟨trivial, List.forall_mem_cons.mpr ⟨trivial, List.forall_mem_cons.mpr ⟨trivial, List.forall_mem_cons.mpr ⟨trivial, List.forall_mem_cons.mpr ⟨trivial, List.forall_mem_cons.mpr ⟨trivial, List.forall_mem_cons.mpr ⟨trivial, List.forall_mem_cons.mpr ⟨⟨ml_Law_34, xmv_TV_reach⟩, List.forall_mem_cons.mpr ⟨trivial, List.forall_mem_cons.mpr ⟨trivial, List.forall_mem_cons.mpr ⟨trivial, List.forall_mem_cons.mpr ⟨⟨ml_Law_25, xmv_TV_generated⟩, List.forall_mem_cons.mpr ⟨trivial, List.forall_mem_cons.mpr ⟨trivial, List.forall_mem_cons.mpr ⟨trivial, List.forall_mem_cons.mpr ⟨trivial, List.forall_mem_cons.mpr ⟨trivial, List.forall_mem_cons.mpr ⟨trivial, List.forall_mem_cons.mpr ⟨trivial, List.forall_mem_cons.mpr ⟨trivial, List.forall_mem_cons.mpr ⟨trivial, List.forall_mem_cons.mpr ⟨trivial, List.forall_mem_cons.mpr ⟨trivial, List.forall_mem_cons.mpr ⟨trivial, List.forall_mem_cons.mpr ⟨trivial, List.forall_mem_cons.mpr ⟨trivial, List.forall_mem_cons.mpr ⟨trivial, List.forall_mem_cons.mpr ⟨⟨ml_Law_37, xmv_TV_factor⟩, List.forall_mem_cons.mpr ⟨trivial, List.forall_mem_cons.mpr ⟨trivial, List.forall_mem_cons.mpr ⟨trivial, List.forall_mem_cons.mpr ⟨trivial, List.forall_mem_cons.mpr ⟨trivial, List.forall_mem_cons.mpr ⟨trivial, List.forall_mem_cons.mpr ⟨trivial, List.forall_mem_cons.mpr ⟨trivial, List.forall_mem_cons.mpr ⟨trivial, List.forall_mem_cons.mpr ⟨trivial, List.forall_mem_cons.mpr ⟨trivial, List.forall_mem_cons.mpr ⟨trivial, List.forall_mem_cons.mpr ⟨trivial, List.forall_mem_cons.mpr ⟨trivial, List.forall_mem_cons.mpr ⟨trivial, List.forall_mem_cons.mpr ⟨trivial, List.forall_mem_cons.mpr ⟨trivial, List.forall_mem_cons.mpr ⟨trivial, List.forall_mem_cons.mpr ⟨⟨ml_Law_40, xmv_TV_make⟩, List.forall_mem_cons.mpr ⟨trivial, List.forall_mem_cons.mpr ⟨trivial, List.forall_mem_cons.mpr ⟨trivial, List.forall_mem_cons.mpr ⟨trivial, List.forall_mem_cons.mpr ⟨trivial, List.forall_mem_cons.mpr ⟨trivial, List.forall_mem_cons.mpr ⟨trivial, List.forall_mem_cons.mpr ⟨trivial, List.forall_mem_cons.mpr ⟨trivial, List.forall_mem_cons.mpr ⟨trivial, List.forall_mem_cons.mpr ⟨trivial, List.forall_mem_cons.mpr ⟨trivial, List.forall_mem_cons.mpr ⟨trivial, List.forall_mem_cons.mpr ⟨trivial, List.forall_mem_cons.mpr ⟨trivial, List.forall_mem_cons.mpr ⟨trivial, List.forall_mem_cons.mpr ⟨⟨ml_Law_37, xmv_TV_factor⟩, List.forall_mem_cons.mpr ⟨trivial, List.forall_mem_cons.mpr ⟨trivial, List.forall_mem_cons.mpr ⟨trivial, List.forall_mem_cons.mpr ⟨trivial, List.forall_mem_cons.mpr ⟨trivial, List.forall_mem_cons.mpr ⟨trivial, List.forall_mem_cons.mpr ⟨trivial, List.forall_mem_cons.mpr ⟨trivial, List.forall_mem_cons.mpr ⟨trivial, List.forall_mem_cons.mpr ⟨trivial, List.forall_mem_cons.mpr ⟨⟨ml_Law_28, xmv_TV_product⟩, List.forall_mem_cons.mpr ⟨trivial, List.forall_mem_cons.mpr ⟨trivial, List.forall_mem_cons.mpr ⟨trivial, List.forall_mem_cons.mpr ⟨trivial, List.forall_mem_cons.mpr ⟨trivial, List.forall_mem_cons.mpr ⟨trivial, List.forall_mem_cons.mpr ⟨trivial, List.forall_mem_cons.mpr ⟨trivial, List.forall_mem_cons.mpr ⟨trivial, List.forall_mem_cons.mpr ⟨trivial, List.forall_mem_cons.mpr ⟨trivial, List.forall_mem_cons.mpr ⟨trivial, List.forall_mem_cons.mpr ⟨⟨ml_Law_15, xmv_TV_turn⟩, List.forall_mem_cons.mpr ⟨trivial, List.forall_mem_cons.mpr ⟨trivial, List.forall_mem_cons.mpr ⟨trivial, List.forall_mem_cons.mpr ⟨⟨ml_Law_15, xmv_TV_turn⟩, List.forall_mem_cons.mpr ⟨trivial, List.forall_mem_cons.mpr ⟨trivial, List.forall_mem_cons.mpr ⟨trivial, List.forall_mem_cons.mpr ⟨trivial, List.forall_mem_cons.mpr ⟨trivial, List.forall_mem_cons.mpr ⟨⟨ml_Law_37, xmv_TV_factor⟩, List.forall_mem_cons.mpr ⟨trivial, List.forall_mem_cons.mpr ⟨trivial, List.forall_mem_cons.mpr ⟨trivial, List.forall_mem_cons.mpr ⟨trivial, List.forall_mem_cons.mpr ⟨trivial, List.forall_mem_cons.mpr ⟨trivial, fun _ h => absurd h List.not_mem_nil⟩⟩⟩⟩⟩⟩⟩⟩⟩⟩⟩⟩⟩⟩⟩⟩⟩⟩⟩⟩⟩⟩⟩⟩⟩⟩⟩⟩⟩⟩⟩⟩⟩⟩⟩⟩⟩⟩⟩⟩⟩⟩⟩⟩⟩⟩⟩⟩⟩⟩⟩⟩⟩⟩⟩⟩⟩⟩⟩⟩⟩⟩⟩⟩⟩⟩⟩⟩⟩⟩⟩⟩⟩⟩⟩⟩⟩⟩⟩⟩⟩⟩⟩⟩⟩⟩⟩⟩⟩⟩⟩⟩⟩⟩⟩⟩⟩⟩⟩⟩⟩⟩⟩⟩⟩⟩⟩⟩⟩⟩⟩⟩⟩⟩⟩⟩⟩⟩⟩⟩⟩⟩⟩⟩⟩⟩⟩⟩⟩⟩⟩⟩⟩⟩⟩⟩⟩⟩⟩⟩⟩
def k_Law_roots : xCd := [
  (0, .iconst 1, 1, .inr (.inr (.inl (nI 1)))),
  (1, .iload_n 1, 1, .inl (0, 0)),
  (2, .iconst 4, 1, .inr (.inr (.inl (nI 4)))),
  (3, .irem, 1, .inl (0, 0)),
  (4, .iadd, 1, .inl (0, 0)),
  (5, .istore_n 2, 1, .inl (0, 0)),
  (6, .aload_n 0, 1, .inl (0, 0)),
  (7, .iconst 0, 1, .inr (.inr (.inl (nI 0)))),
  (8, .iconst 0, 1, .inr (.inr (.inl (nI 0)))),
  (9, .invokevirtual 15, 3, .inr (.inl g_TV_turn)),
  (12, .istore_n 3, 1, .inl (0, 0)),
  (13, .aload_n 0, 1, .inl (0, 0)),
  (14, .iconst 0, 1, .inr (.inr (.inl (nI 0)))),
  (15, .iload_n 2, 1, .inl (0, 0)),
  (16, .iconst 5, 1, .inr (.inr (.inl (nI 5)))),
  (17, .invokevirtual 43, 3, .inr (.inl g_TV_root)),
  (20, .istore 4, 2, .inl (0, 0)),
  (22, .iload 4, 2, .inl (0, 0)),
  (24, .ifCond .ge 38, 3, .inl (62, 0)),
  (27, .iload 4, 2, .inl (0, 0)),
  (29, .bipush (-9), 2, .inr (.inr (.inl (-9)))),
  (31, .if_icmp .ne 29, 3, .inl (60, 0)),
  (34, .aload_n 0, 1, .inl (0, 0)),
  (35, .iconst 1, 1, .inr (.inr (.inl (nI 1)))),
  (36, .iload_n 2, 1, .inl (0, 0)),
  (37, .iconst 5, 1, .inr (.inr (.inl (nI 5)))),
  (38, .invokevirtual 21, 3, .inr (.inl g_TV_power)),
  (41, .iload_n 3, 1, .inl (0, 0)),
  (42, .if_icmp .eq 18, 3, .inl (60, 0)),
  (45, .aload_n 0, 1, .inl (0, 0)),
  (46, .iconst 2, 1, .inr (.inr (.inl (nI 2)))),
  (47, .iload_n 2, 1, .inl (0, 0)),
  (48, .iconst 5, 1, .inr (.inr (.inl (nI 5)))),
  (49, .invokevirtual 21, 3, .inr (.inl g_TV_power)),
  (52, .iload_n 3, 1, .inl (0, 0)),
  (53, .if_icmp .eq 7, 3, .inl (60, 0)),
  (56, .iconst 1, 1, .inr (.inr (.inl (nI 1)))),
  (57, .goto 4, 3, .inl (61, 0)),
  (60, .iconst 0, 1, .inr (.inr (.inl (nI 0)))),
  (61, .ireturn, 1, .inl (0, 0)),
  (62, .aload_n 0, 1, .inl (0, 0)),
  (63, .iconst 5, 1, .inr (.inr (.inl (nI 5)))),
  (64, .iconst 0, 1, .inr (.inr (.inl (nI 0)))),
  (65, .invokevirtual 15, 3, .inr (.inl g_TV_turn)),
  (68, .iload 4, 2, .inl (0, 0)),
  (70, .if_icmp .ne 51, 3, .inl (121, 0)),
  (73, .aload_n 0, 1, .inl (0, 0)),
  (74, .iconst 5, 1, .inr (.inr (.inl (nI 5)))),
  (75, .iload_n 2, 1, .inl (0, 0)),
  (76, .iconst 5, 1, .inr (.inr (.inl (nI 5)))),
  (77, .invokevirtual 21, 3, .inr (.inl g_TV_power)),
  (80, .iload_n 3, 1, .inl (0, 0)),
  (81, .if_icmp .ne 40, 3, .inl (121, 0)),
  (84, .iload_n 2, 1, .inl (0, 0)),
  (85, .iconst 1, 1, .inr (.inr (.inl (nI 1)))),
  (86, .if_icmp .gt 9, 3, .inl (95, 0)),
  (89, .iload 4, 2, .inl (0, 0)),
  (91, .iload_n 3, 1, .inl (0, 0)),
  (92, .if_icmp .ne 29, 3, .inl (121, 0)),
  (95, .aload_n 0, 1, .inl (0, 0)),
  (96, .iconst 1, 1, .inr (.inr (.inl (nI 1)))),
  (97, .iload_n 2, 1, .inl (0, 0)),
  (98, .iconst 5, 1, .inr (.inr (.inl (nI 5)))),
  (99, .invokevirtual 21, 3, .inr (.inl g_TV_power)),
  (102, .iload_n 3, 1, .inl (0, 0)),
  (103, .if_icmp .ne 14, 3, .inl (117, 0)),
  (106, .iload 4, 2, .inl (0, 0)),
  (108, .aload_n 0, 1, .inl (0, 0)),
  (109, .iconst 1, 1, .inr (.inr (.inl (nI 1)))),
  (110, .iconst 0, 1, .inr (.inr (.inl (nI 0)))),
  (111, .invokevirtual 15, 3, .inr (.inl g_TV_turn)),
  (114, .if_icmp .gt 7, 3, .inl (121, 0)),
  (117, .iconst 1, 1, .inr (.inr (.inl (nI 1)))),
  (118, .goto 4, 3, .inl (122, 0)),
  (121, .iconst 0, 1, .inr (.inr (.inl (nI 0)))),
  (122, .ireturn, 1, .inl (0, 0))]
set_option maxRecDepth 100000 in
set_option maxHeartbeats 4000000 in
theorem ok_Law_roots : xOK g_Law_roots k_Law_roots := ⟨by decide +kernel, by decide +kernel, List.forall_mem_cons.mpr ⟨trivial, List.forall_mem_cons.mpr ⟨trivial, List.forall_mem_cons.mpr ⟨trivial, List.forall_mem_cons.mpr ⟨trivial, List.forall_mem_cons.mpr ⟨trivial, List.forall_mem_cons.mpr ⟨trivial, List.forall_mem_cons.mpr ⟨trivial, List.forall_mem_cons.mpr ⟨trivial, List.forall_mem_cons.mpr ⟨trivial, List.forall_mem_cons.mpr ⟨⟨ml_Law_15, xmv_TV_turn⟩, List.forall_mem_cons.mpr ⟨trivial, List.forall_mem_cons.mpr ⟨trivial, List.forall_mem_cons.mpr ⟨trivial, List.forall_mem_cons.mpr ⟨trivial, List.forall_mem_cons.mpr ⟨trivial, List.forall_mem_cons.mpr ⟨⟨ml_Law_43, xmv_TV_root⟩, List.forall_mem_cons.mpr ⟨trivial, List.forall_mem_cons.mpr ⟨trivial, List.forall_mem_cons.mpr ⟨trivial, List.forall_mem_cons.mpr ⟨trivial, List.forall_mem_cons.mpr ⟨trivial, List.forall_mem_cons.mpr ⟨trivial, List.forall_mem_cons.mpr ⟨trivial, List.forall_mem_cons.mpr ⟨trivial, List.forall_mem_cons.mpr ⟨trivial, List.forall_mem_cons.mpr ⟨trivial, List.forall_mem_cons.mpr ⟨⟨ml_Law_21, xmv_TV_power⟩, List.forall_mem_cons.mpr ⟨trivial, List.forall_mem_cons.mpr ⟨trivial, List.forall_mem_cons.mpr ⟨trivial, List.forall_mem_cons.mpr ⟨trivial, List.forall_mem_cons.mpr ⟨trivial, List.forall_mem_cons.mpr ⟨trivial, List.forall_mem_cons.mpr ⟨⟨ml_Law_21, xmv_TV_power⟩, List.forall_mem_cons.mpr ⟨trivial, List.forall_mem_cons.mpr ⟨trivial, List.forall_mem_cons.mpr ⟨trivial, List.forall_mem_cons.mpr ⟨trivial, List.forall_mem_cons.mpr ⟨trivial, List.forall_mem_cons.mpr ⟨trivial, List.forall_mem_cons.mpr ⟨trivial, List.forall_mem_cons.mpr ⟨trivial, List.forall_mem_cons.mpr ⟨trivial, List.forall_mem_cons.mpr ⟨⟨ml_Law_15, xmv_TV_turn⟩, List.forall_mem_cons.mpr ⟨trivial, List.forall_mem_cons.mpr ⟨trivial, List.forall_mem_cons.mpr ⟨trivial, List.forall_mem_cons.mpr ⟨trivial, List.forall_mem_cons.mpr ⟨trivial, List.forall_mem_cons.mpr ⟨trivial, List.forall_mem_cons.mpr ⟨⟨ml_Law_21, xmv_TV_power⟩, List.forall_mem_cons.mpr ⟨trivial, List.forall_mem_cons.mpr ⟨trivial, List.forall_mem_cons.mpr ⟨trivial, List.forall_mem_cons.mpr ⟨trivial, List.forall_mem_cons.mpr ⟨trivial, List.forall_mem_cons.mpr ⟨trivial, List.forall_mem_cons.mpr ⟨trivial, List.forall_mem_cons.mpr ⟨trivial, List.forall_mem_cons.mpr ⟨trivial, List.forall_mem_cons.mpr ⟨trivial, List.forall_mem_cons.mpr ⟨trivial, List.forall_mem_cons.mpr ⟨trivial, List.forall_mem_cons.mpr ⟨⟨ml_Law_21, xmv_TV_power⟩, List.forall_mem_cons.mpr ⟨trivial, List.forall_mem_cons.mpr ⟨trivial, List.forall_mem_cons.mpr ⟨trivial, List.forall_mem_cons.mpr ⟨trivial, List.forall_mem_cons.mpr ⟨trivial, List.forall_mem_cons.mpr ⟨trivial, List.forall_mem_cons.mpr ⟨⟨ml_Law_15, xmv_TV_turn⟩, List.forall_mem_cons.mpr ⟨trivial, List.forall_mem_cons.mpr ⟨trivial, List.forall_mem_cons.mpr ⟨trivial, List.forall_mem_cons.mpr ⟨trivial, List.forall_mem_cons.mpr ⟨trivial, fun _ h => absurd h List.not_mem_nil⟩⟩⟩⟩⟩⟩⟩⟩⟩⟩⟩⟩⟩⟩⟩⟩⟩⟩⟩⟩⟩⟩⟩⟩⟩⟩⟩⟩⟩⟩⟩⟩⟩⟩⟩⟩⟩⟩⟩⟩⟩⟩⟩⟩⟩⟩⟩⟩⟩⟩⟩⟩⟩⟩⟩⟩⟩⟩⟩⟩⟩⟩⟩⟩⟩⟩⟩⟩⟩⟩⟩⟩⟩⟩⟩⟩⟩
def k_Law_differences : xCd := [
  (0, .iconst 0, 1, .inr (.inr (.inl (nI 0)))),
  (1, .istore_n 3, 1, .inl (0, 0)),
  (2, .iconst 0, 1, .inr (.inr (.inl (nI 0)))),
  (3, .istore 4, 2, .inl (0, 0)),
  (5, .iload 4, 2, .inl (0, 0)),
  (7, .aload_n 0, 1, .inl (0, 0)),
  (8, .iconst 1, 1, .inr (.inr (.inl (nI 1)))),
  (9, .invokevirtual 46, 3, .inr (.inl g_TV_told)),
  (12, .if_icmp .ge 52, 3, .inl (64, 0)),
  (15, .iconst 0, 1, .inr (.inr (.inl (nI 0)))),
  (16, .istore 5, 2, .inl (0, 0)),
  (18, .iload 5, 2, .inl (0, 0)),
  (20, .iload_n 1, 1, .inl (0, 0)),
  (21, .if_icmp .ge 37, 3, .inl (58, 0)),
  (24, .iload_n 3, 1, .inl (0, 0)),
  (25, .aload_n 0, 1, .inl (0, 0)),
  (26, .iload 4, 2, .inl (0, 0)),
  (28, .iload 5, 2, .inl (0, 0)),
  (30, .invokevirtual 49, 3, .inr (.inl g_TV_word)),
  (33, .aload_n 2, 1, .inl (0, 0)),
  (34, .iload_n 1, 1, .inl (0, 0)),
  (35, .iload 4, 2, .inl (0, 0)),
  (37, .imul, 1, .inl (0, 0)),
  (38, .iload 5, 2, .inl (0, 0)),
  (40, .iadd, 1, .inl (0, 0)),
  (41, .iaload, 1, .inl (0, 0)),
  (42, .if_icmp .ne 7, 3, .inl (49, 0)),
  (45, .iconst 0, 1, .inr (.inr (.inl (nI 0)))),
  (46, .goto 4, 3, .inl (50, 0)),
  (49, .iconst 1, 1, .inr (.inr (.inl (nI 1)))),
  (50, .iadd, 1, .inl (0, 0)),
  (51, .istore_n 3, 1, .inl (0, 0)),
  (52, .iinc 5 1, 3, .inr (.inr (.inl (nI 1)))),
  (55, .goto (-37), 3, .inl (18, 0)),
  (58, .iinc 4 1, 3, .inr (.inr (.inl (nI 1)))),
  (61, .goto (-56), 3, .inl (5, 0)),
  (64, .iload_n 3, 1, .inl (0, 0)),
  (65, .ireturn, 1, .inl (0, 0))]
set_option maxRecDepth 100000 in
set_option maxHeartbeats 4000000 in
theorem ok_Law_differences : xOK g_Law_differences k_Law_differences := ⟨by decide +kernel, by decide +kernel, List.forall_mem_cons.mpr ⟨trivial, List.forall_mem_cons.mpr ⟨trivial, List.forall_mem_cons.mpr ⟨trivial, List.forall_mem_cons.mpr ⟨trivial, List.forall_mem_cons.mpr ⟨trivial, List.forall_mem_cons.mpr ⟨trivial, List.forall_mem_cons.mpr ⟨trivial, List.forall_mem_cons.mpr ⟨⟨ml_Law_46, xmv_TV_told⟩, List.forall_mem_cons.mpr ⟨trivial, List.forall_mem_cons.mpr ⟨trivial, List.forall_mem_cons.mpr ⟨trivial, List.forall_mem_cons.mpr ⟨trivial, List.forall_mem_cons.mpr ⟨trivial, List.forall_mem_cons.mpr ⟨trivial, List.forall_mem_cons.mpr ⟨trivial, List.forall_mem_cons.mpr ⟨trivial, List.forall_mem_cons.mpr ⟨trivial, List.forall_mem_cons.mpr ⟨trivial, List.forall_mem_cons.mpr ⟨⟨ml_Law_49, xmv_TV_word⟩, List.forall_mem_cons.mpr ⟨trivial, List.forall_mem_cons.mpr ⟨trivial, List.forall_mem_cons.mpr ⟨trivial, List.forall_mem_cons.mpr ⟨trivial, List.forall_mem_cons.mpr ⟨trivial, List.forall_mem_cons.mpr ⟨trivial, List.forall_mem_cons.mpr ⟨trivial, List.forall_mem_cons.mpr ⟨trivial, List.forall_mem_cons.mpr ⟨trivial, List.forall_mem_cons.mpr ⟨trivial, List.forall_mem_cons.mpr ⟨trivial, List.forall_mem_cons.mpr ⟨trivial, List.forall_mem_cons.mpr ⟨trivial, List.forall_mem_cons.mpr ⟨trivial, List.forall_mem_cons.mpr ⟨trivial, List.forall_mem_cons.mpr ⟨trivial, List.forall_mem_cons.mpr ⟨trivial, List.forall_mem_cons.mpr ⟨trivial, List.forall_mem_cons.mpr ⟨trivial, fun _ h => absurd h List.not_mem_nil⟩⟩⟩⟩⟩⟩⟩⟩⟩⟩⟩⟩⟩⟩⟩⟩⟩⟩⟩⟩⟩⟩⟩⟩⟩⟩⟩⟩⟩⟩⟩⟩⟩⟩⟩⟩⟩⟩⟩
def k_Law_mends : xCd := [
  (0, .iconst 1, 1, .inr (.inr (.inl (nI 1)))),
  (1, .aload_n 2, 1, .inl (0, 0)),
  (2, .iconst 4, 1, .inr (.inr (.inl (nI 4)))),
  (3, .invokestatic 52, 3, .inr (.inl g_Law_cell)),
  (6, .bipush 8, 2, .inr (.inr (.inl (nI 8)))),
  (8, .irem, 1, .inl (0, 0)),
  (9, .iadd, 1, .inl (0, 0)),
  (10, .istore_n 3, 1, .inl (0, 0)),
  (11, .iconst 0, 1, .inr (.inr (.inl (nI 0)))),
  (12, .istore 4, 2, .inl (0, 0)),
  (14, .iload 4, 2, .inl (0, 0)),
  (16, .iload_n 3, 1, .inl (0, 0)),
  (17, .if_icmp .ge 33, 3, .inl (50, 0)),
  (20, .aload_n 0, 1, .inl (0, 0)),
  (21, .iconst 0, 1, .inr (.inr (.inl (nI 0)))),
  (22, .invokevirtual 56, 3, .inr (.inl g_TV_add)),
  (25, .iload 4, 2, .inl (0, 0)),
  (27, .iconst 1, 1, .inr (.inr (.inl (nI 1)))),
  (28, .iadd, 1, .inl (0, 0)),
  (29, .if_icmp .ne 13, 3, .inl (42, 0)),
  (32, .aload_n 0, 1, .inl (0, 0)),
  (33, .iload 4, 2, .inl (0, 0)),
  (35, .invokevirtual 59, 3, .inr (.inl g_TV_proper)),
  (38, .iconst 1, 1, .inr (.inr (.inl (nI 1)))),
  (39, .if_icmp .eq 5, 3, .inl (44, 0)),
  (42, .iconst 0, 1, .inr (.inr (.inl (nI 0)))),
  (43, .ireturn, 1, .inl (0, 0)),
  (44, .iinc 4 1, 3, .inr (.inr (.inl (nI 1)))),
  (47, .goto (-33), 3, .inl (14, 0)),
  (50, .aload_n 0, 1, .inl (0, 0)),
  (51, .iconst 0, 1, .inr (.inr (.inl (nI 0)))),
  (52, .invokevirtual 62, 3, .inr (.inl g_TV_follows)),
  (55, .iconst 1, 1, .inr (.inr (.inl (nI 1)))),
  (56, .if_icmp .ne 49, 3, .inl (105, 0)),
  (59, .aload_n 0, 1, .inl (0, 0)),
  (60, .iconst 0, 1, .inr (.inr (.inl (nI 0)))),
  (61, .invokevirtual 65, 3, .inr (.inl g_TV_cost)),
  (64, .ifCond .ne 41, 3, .inl (105, 0)),
  (67, .aload_n 0, 1, .inl (0, 0)),
  (68, .iconst 5, 1, .inr (.inr (.inl (nI 5)))),
  (69, .invokevirtual 68, 3, .inr (.inl g_TV_common)),
  (72, .iload_n 3, 1, .inl (0, 0)),
  (73, .iconst 1, 1, .inr (.inr (.inl (nI 1)))),
  (74, .if_icmp .le 12, 3, .inl (86, 0)),
  (77, .aload_n 0, 1, .inl (0, 0)),
  (78, .iconst 0, 1, .inr (.inr (.inl (nI 0)))),
  (79, .iconst 0, 1, .inr (.inr (.inl (nI 0)))),
  (80, .invokevirtual 15, 3, .inr (.inl g_TV_turn)),
  (83, .goto 5, 3, .inl (88, 0)),
  (86, .bipush (-9), 2, .inr (.inr (.inl (-9)))),
  (88, .if_icmp .ne 17, 3, .inl (105, 0)),
  (91, .aload_n 0, 1, .inl (0, 0)),
  (92, .bipush 6, 2, .inr (.inr (.inl (nI 6)))),
  (94, .invokevirtual 56, 3, .inr (.inl g_TV_add)),
  (97, .iconst (-1), 1, .inr (.inr (.inl (-1)))),
  (98, .if_icmp .ne 7, 3, .inl (105, 0)),
  (101, .iconst 1, 1, .inr (.inr (.inl (nI 1)))),
  (102, .goto 4, 3, .inl (106, 0)),
  (105, .iconst 0, 1, .inr (.inr (.inl (nI 0)))),
  (106, .istore 4, 2, .inl (0, 0)),
  (108, .aload_n 2, 1, .inl (0, 0)),
  (109, .iconst 5, 1, .inr (.inr (.inl (nI 5)))),
  (110, .invokestatic 52, 3, .inr (.inl g_Law_cell)),
  (113, .bipush 6, 2, .inr (.inr (.inl (nI 6)))),
  (115, .irem, 1, .inl (0, 0)),
  (116, .istore 5, 2, .inl (0, 0)),
  (118, .iconst 0, 1, .inr (.inr (.inl (nI 0)))),
  (119, .istore 6, 2, .inl (0, 0)),
  (121, .iload 6, 2, .inl (0, 0)),
  (123, .iload 5, 2, .inl (0, 0)),
  (125, .if_icmp .ge 56, 3, .inl (181, 0)),
  (128, .iload 4, 2, .inl (0, 0)),
  (130, .ifCond .eq 51, 3, .inl (181, 0)),
  (133, .aload_n 2, 1, .inl (0, 0)),
  (134, .bipush 6, 2, .inr (.inr (.inl (nI 6)))),
  (136, .iload 6, 2, .inl (0, 0)),
  (138, .iadd, 1, .inl (0, 0)),
  (139, .invokestatic 52, 3, .inr (.inl g_Law_cell)),
  (142, .istore 7, 2, .inl (0, 0)),
  (144, .aload_n 0, 1, .inl (0, 0)),
  (145, .iload 7, 2, .inl (0, 0)),
  (147, .iload_n 3, 1, .inl (0, 0)),
  (148, .irem, 1, .inl (0, 0)),
  (149, .iload 7, 2, .inl (0, 0)),
  (151, .iconst 3, 1, .inr (.inr (.inl (nI 3)))),
  (152, .ishr, 1, .inl (0, 0)),
  (153, .iload_n 1, 1, .inl (0, 0)),
  (154, .irem, 1, .inl (0, 0)),
  (155, .iload 7, 2, .inl (0, 0)),
  (157, .bipush 6, 2, .inr (.inr (.inl (nI 6)))),
  (159, .ishr, 1, .inl (0, 0)),
  (160, .iload_n 1, 1, .inl (0, 0)),
  (161, .irem, 1, .inl (0, 0)),
  (162, .invokevirtual 71, 3, .inr (.inl g_TV_put)),
  (165, .ifCond .lt 7, 3, .inl (172, 0)),
  (168, .iconst 1, 1, .inr (.inr (.inl (nI 1)))),
  (169, .goto 4, 3, .inl (173, 0)),
  (172, .iconst 0, 1, .inr (.inr (.inl (nI 0)))),
  (173, .istore 4, 2, .inl (0, 0)),
  (175, .iinc 6 1, 3, .inr (.inr (.inl (nI 1)))),
  (178, .goto (-57), 3, .inl (121, 0)),
  (181, .aload_n 0, 1, .inl (0, 0)),
  (182, .iconst 0, 1, .inr (.inr (.inl (nI 0)))),
  (183, .invokevirtual 65, 3, .inr (.inl g_TV_cost)),
  (186, .istore 6, 2, .inl (0, 0)),
  (188, .iload 4, 2, .inl (0, 0)),
  (190, .ifCond .eq 46, 3, .inl (236, 0)),
  (193, .iload 6, 2, .inl (0, 0)),
  (195, .ifCond .lt 41, 3, .inl (236, 0)),
  (198, .iload 6, 2, .inl (0, 0)),
  (200, .iload 5, 2, .inl (0, 0)),
  (202, .if_icmp .gt 34, 3, .inl (236, 0)),
  (205, .iload 6, 2, .inl (0, 0)),
  (207, .ifCond .ne 7, 3, .inl (214, 0)),
  (210, .iconst 1, 1, .inr (.inr (.inl (nI 1)))),
  (211, .goto 4, 3, .inl (215, 0)),
  (214, .iconst 0, 1, .inr (.inr (.inl (nI 0)))),
  (215, .aload_n 0, 1, .inl (0, 0)),
  (216, .iconst 0, 1, .inr (.inr (.inl (nI 0)))),
  (217, .invokevirtual 62, 3, .inr (.inl g_TV_follows)),
  (220, .iconst 1, 1, .inr (.inr (.inl (nI 1)))),
  (221, .if_icmp .ne 7, 3, .inl (228, 0)),
  (224, .iconst 1, 1, .inr (.inr (.inl (nI 1)))),
  (225, .goto 4, 3, .inl (229, 0)),
  (228, .iconst 0, 1, .inr (.inr (.inl (nI 0)))),
  (229, .if_icmp .ne 7, 3, .inl (236, 0)),
  (232, .iconst 1, 1, .inr (.inr (.inl (nI 1)))),
  (233, .goto 4, 3, .inl (237, 0)),
  (236, .iconst 0, 1, .inr (.inr (.inl (nI 0)))),
  (237, .istore 4, 2, .inl (0, 0)),
  (239, .aload_n 0, 1, .inl (0, 0)),
  (240, .iconst 4, 1, .inr (.inr (.inl (nI 4)))),
  (241, .invokevirtual 74, 3, .inr (.inl g_TV_best)),
  (244, .istore 7, 2, .inl (0, 0)),
  (246, .iload 4, 2, .inl (0, 0)),
  (248, .ifCond .eq 61, 3, .inl (309, 0)),
  (251, .iload 7, 2, .inl (0, 0)),
  (253, .ifCond .lt 56, 3, .inl (309, 0)),
  (256, .iload 7, 2, .inl (0, 0)),
  (258, .iload 6, 2, .inl (0, 0)),
  (260, .if_icmp .gt 49, 3, .inl (309, 0)),
  (263, .iload 7, 2, .inl (0, 0)),
  (265, .aload_n 0, 1, .inl (0, 0)),
  (266, .iconst 1, 1, .inr (.inr (.inl (nI 1)))),
  (267, .invokevirtual 65, 3, .inr (.inl g_TV_cost)),
  (270, .if_icmp .gt 39, 3, .inl (309, 0)),
  (273, .aload_n 0, 1, .inl (0, 0)),
  (274, .iconst 4, 1, .inr (.inr (.inl (nI 4)))),
  (275, .invokevirtual 65, 3, .inr (.inl g_TV_cost)),
  (278, .iload 7, 2, .inl (0, 0)),
  (280, .if_icmp .ne 29, 3, .inl (309, 0)),
  (283, .iload 7, 2, .inl (0, 0)),
  (285, .iload 6, 2, .inl (0, 0)),
  (287, .if_icmp .lt 18, 3, .inl (305, 0)),
  (290, .aload_n 0, 1, .inl (0, 0)),
  (291, .iconst 4, 1, .inr (.inr (.inl (nI 4)))),
  (292, .iconst 0, 1, .inr (.inr (.inl (nI 0)))),
  (293, .invokevirtual 15, 3, .inr (.inl g_TV_turn)),
  (296, .aload_n 0, 1, .inl (0, 0)),
  (297, .iconst 0, 1, .inr (.inr (.inl (nI 0)))),
  (298, .iconst 0, 1, .inr (.inr (.inl (nI 0)))),
  (299, .invokevirtual 15, 3, .inr (.inl g_TV_turn)),
  (302, .if_icmp .gt 7, 3, .inl (309, 0)),
  (305, .iconst 1, 1, .inr (.inr (.inl (nI 1)))),
  (306, .goto 4, 3, .inl (310, 0)),
  (309, .iconst 0, 1, .inr (.inr (.inl (nI 0)))),
  (310, .istore 4, 2, .inl (0, 0)),
  (312, .bipush 56, 2, .inr (.inr (.inl (nI 56)))),
  (314, .newarray .int, 2, .inl (0, 0)),
  (316, .astore 8, 2, .inl (0, 0)),
  (318, .iconst 0, 1, .inr (.inr (.inl (nI 0)))),
  (319, .istore 9, 2, .inl (0, 0)),
  (321, .iload 9, 2, .inl (0, 0)),
  (323, .iload_n 1, 1, .inl (0, 0)),
  (324, .iload_n 3, 1, .inl (0, 0)),
  (325, .imul, 1, .inl (0, 0)),
  (326, .if_icmp .ge 26, 3, .inl (352, 0)),
  (329, .aload 8, 2, .inl (0, 0)),
  (331, .iload 9, 2, .inl (0, 0)),
  (333, .aload_n 0, 1, .inl (0, 0)),
  (334, .iload 9, 2, .inl (0, 0)),
  (336, .iload_n 1, 1, .inl (0, 0)),
  (337, .idiv, 1, .inl (0, 0)),
  (338, .iload 9, 2, .inl (0, 0)),
  (340, .iload_n 1, 1, .inl (0, 0)),
  (341, .irem, 1, .inl (0, 0)),
  (342, .invokevirtual 49, 3, .inr (.inl g_TV_word)),
  (345, .iastore, 1, .inl (0, 0)),
  (346, .iinc 9 1, 3, .inr (.inr (.inl (nI 1)))),
  (349, .goto (-28), 3, .inl (321, 0)),
  (352, .aload_n 2, 1, .inl (0, 0)),
  (353, .bipush 12, 2, .inr (.inr (.inl (nI 12)))),
  (355, .invokestatic 52, 3, .inr (.inl g_Law_cell)),
  (358, .iload_n 1, 1, .inl (0, 0)),
  (359, .iload_n 3, 1, .inl (0, 0)),
  (360, .imul, 1, .inl (0, 0)),
  (361, .irem, 1, .inl (0, 0)),
  (362, .istore 9, 2, .inl (0, 0)),
  (364, .iload 4, 2, .inl (0, 0)),
  (366, .ifCond .eq 23, 3, .inl (389, 0)),
  (369, .aload_n 0, 1, .inl (0, 0)),
  (370, .iload 9, 2, .inl (0, 0)),
  (372, .iload_n 1, 1, .inl (0, 0)),
  (373, .idiv, 1, .inl (0, 0)),
  (374, .iload 9, 2, .inl (0, 0)),
  (376, .iload_n 1, 1, .inl (0, 0)),
  (377, .irem, 1, .inl (0, 0)),
  (378, .iconst 1, 1, .inr (.inr (.inl (nI 1)))),
  (379, .invokevirtual 77, 3, .inr (.inl g_TV_lock)),
  (382, .ifCond .ne 7, 3, .inl (389, 0)),
  (385, .iconst 1, 1, .inr (.inr (.inl (nI 1)))),
  (386, .goto 4, 3, .inl (390, 0)),
  (389, .iconst 0, 1, .inr (.inr (.inl (nI 0)))),
  (390, .istore 4, 2, .inl (0, 0)),
  (392, .aload_n 0, 1, .inl (0, 0)),
  (393, .iconst 0, 1, .inr (.inr (.inl (nI 0)))),
  (394, .invokevirtual 65, 3, .inr (.inl g_TV_cost)),
  (397, .istore 10, 2, .inl (0, 0)),
  (399, .iload 4, 2, .inl (0, 0)),
  (401, .ifCond .eq 73, 3, .inl (474, 0)),
  (404, .iload 10, 2, .inl (0, 0)),
  (406, .iload 6, 2, .inl (0, 0)),
  (408, .if_icmp .lt 66, 3, .inl (474, 0)),
  (411, .aload_n 0, 1, .inl (0, 0)),
  (412, .iconst 0, 1, .inr (.inr (.inl (nI 0)))),
  (413, .invokevirtual 81, 3, .inr (.inl g_TV_mend)),
  (416, .iload 10, 2, .inl (0, 0)),
  (418, .if_icmp .ne 56, 3, .inl (474, 0)),
  (421, .aload_n 0, 1, .inl (0, 0)),
  (422, .iconst 0, 1, .inr (.inr (.inl (nI 0)))),
  (423, .invokevirtual 62, 3, .inr (.inl g_TV_follows)),
  (426, .iconst 1, 1, .inr (.inr (.inl (nI 1)))),
  (427, .if_icmp .ne 47, 3, .inl (474, 0)),
  (430, .aload_n 0, 1, .inl (0, 0)),
  (431, .iconst 0, 1, .inr (.inr (.inl (nI 0)))),
  (432, .invokevirtual 65, 3, .inr (.inl g_TV_cost)),
  (435, .ifCond .ne 39, 3, .inl (474, 0)),
  (438, .aload_n 0, 1, .inl (0, 0)),
  (439, .iload_n 1, 1, .inl (0, 0)),
  (440, .aload 8, 2, .inl (0, 0)),
  (442, .invokestatic 84, 3, .inr (.inl g_Law_differences)),
  (445, .iload 10, 2, .inl (0, 0)),
  (447, .if_icmp .ne 27, 3, .inl (474, 0)),
  (450, .aload_n 0, 1, .inl (0, 0)),
  (451, .iload 9, 2, .inl (0, 0)),
  (453, .iload_n 1, 1, .inl (0, 0)),
  (454, .idiv, 1, .inl (0, 0)),
  (455, .iload 9, 2, .inl (0, 0)),
  (457, .iload_n 1, 1, .inl (0, 0)),
  (458, .irem, 1, .inl (0, 0)),
  (459, .invokevirtual 49, 3, .inr (.inl g_TV_word)),
  (462, .aload 8, 2, .inl (0, 0)),
  (464, .iload 9, 2, .inl (0, 0)),
  (466, .iaload, 1, .inl (0, 0)),
  (467, .if_icmp .ne 7, 3, .inl (474, 0)),
  (470, .iconst 1, 1, .inr (.inr (.inl (nI 1)))),
  (471, .goto 4, 3, .inl (475, 0)),
  (474, .iconst 0, 1, .inr (.inr (.inl (nI 0)))),
  (475, .istore 4, 2, .inl (0, 0)),
  (477, .iload 4, 2, .inl (0, 0)),
  (479, .ifCond .eq 63, 3, .inl (542, 0)),
  (482, .aload_n 0, 1, .inl (0, 0)),
  (483, .invokevirtual 88, 3, .inr (.inl g_TV_undo)),
  (486, .ifCond .lt 56, 3, .inl (542, 0)),
  (489, .aload_n 0, 1, .inl (0, 0)),
  (490, .iload_n 1, 1, .inl (0, 0)),
  (491, .aload 8, 2, .inl (0, 0)),
  (493, .invokestatic 84, 3, .inr (.inl g_Law_differences)),
  (496, .ifCond .ne 46, 3, .inl (542, 0)),
  (499, .aload_n 0, 1, .inl (0, 0)),
  (500, .iload 9, 2, .inl (0, 0)),
  (502, .iload_n 1, 1, .inl (0, 0)),
  (503, .idiv, 1, .inl (0, 0)),
  (504, .iload 9, 2, .inl (0, 0)),
  (506, .iload_n 1, 1, .inl (0, 0)),
  (507, .irem, 1, .inl (0, 0)),
  (508, .iconst 0, 1, .inr (.inr (.inl (nI 0)))),
  (509, .invokevirtual 77, 3, .inr (.inl g_TV_lock)),
  (512, .iconst 1, 1, .inr (.inr (.inl (nI 1)))),
  (513, .if_icmp .ne 29, 3, .inl (542, 0)),
  (516, .aload_n 0, 1, .inl (0, 0)),
  (517, .iconst 4, 1, .inr (.inr (.inl (nI 4)))),
  (518, .invokevirtual 81, 3, .inr (.inl g_TV_mend)),
  (521, .iload 7, 2, .inl (0, 0)),
  (523, .if_icmp .ne 19, 3, .inl (542, 0)),
  (526, .aload_n 0, 1, .inl (0, 0)),
  (527, .iload_n 1, 1, .inl (0, 0)),
  (528, .aload 8, 2, .inl (0, 0)),
  (530, .invokestatic 84, 3, .inr (.inl g_Law_differences)),
  (533, .iload 7, 2, .inl (0, 0)),
  (535, .if_icmp .ne 7, 3, .inl (542, 0)),
  (538, .iconst 1, 1, .inr (.inr (.inl (nI 1)))),
  (539, .goto 4, 3, .inl (543, 0)),
  (542, .iconst 0, 1, .inr (.inr (.inl (nI 0)))),
  (543, .istore 4, 2, .inl (0, 0)),
  (545, .iload 4, 2, .inl (0, 0)),
  (547, .ifCond .eq 29, 3, .inl (576, 0)),
  (550, .aload_n 0, 1, .inl (0, 0)),
  (551, .iload_n 3, 1, .inl (0, 0)),
  (552, .iconst 1, 1, .inr (.inr (.inl (nI 1)))),
  (553, .isub, 1, .inl (0, 0)),
  (554, .invokevirtual 92, 3, .inr (.inl g_TV_turning)),
  (557, .bipush (-9), 2, .inr (.inr (.inl (-9)))),
  (559, .if_icmp .ne 17, 3, .inl (576, 0)),
  (562, .aload_n 0, 1, .inl (0, 0)),
  (563, .invokevirtual 95, 3, .inr (.inl g_TV_drop)),
  (566, .iload_n 3, 1, .inl (0, 0)),
  (567, .iconst 1, 1, .inr (.inr (.inl (nI 1)))),
  (568, .isub, 1, .inl (0, 0)),
  (569, .if_icmp .ne 7, 3, .inl (576, 0)),
  (572, .iconst 1, 1, .inr (.inr (.inl (nI 1)))),
  (573, .goto 4, 3, .inl (577, 0)),
  (576, .iconst 0, 1, .inr (.inr (.inl (nI 0)))),
  (577, .ireturn, 1, .inl (0, 0))]
set_option maxRecDepth 100000 in
set_option maxHeartbeats 4000000 in
theorem ok_Law_mends : xOK g_Law_mends k_Law_mends := ⟨by decide +kernel, by decide +kernel, List.forall_mem_cons.mpr ⟨trivial, List.forall_mem_cons.mpr ⟨trivial, List.forall_mem_cons.mpr ⟨trivial, List.forall_mem_cons.mpr ⟨⟨ml_Law_52, xms_Law_cell⟩, List.forall_mem_cons.mpr ⟨trivial, List.forall_mem_cons.mpr ⟨trivial, List.forall_mem_cons.mpr ⟨trivial, List.forall_mem_cons.mpr ⟨trivial, List.forall_mem_cons.mpr ⟨trivial, List.forall_mem_cons.mpr ⟨trivial, List.forall_mem_cons.mpr ⟨trivial, List.forall_mem_cons.mpr ⟨trivial, List.forall_mem_cons.mpr ⟨trivial, List.forall_mem_cons.mpr ⟨trivial, List.forall_mem_cons.mpr ⟨trivial, List.forall_mem_cons.mpr ⟨⟨ml_Law_56, xmv_TV_add⟩, List.forall_mem_cons.mpr ⟨trivial, List.forall_mem_cons.mpr ⟨trivial, List.forall_mem_cons.mpr ⟨trivial, List.forall_mem_cons.mpr ⟨trivial, List.forall_mem_cons.mpr ⟨trivial, List.forall_mem_cons.mpr ⟨trivial, List.forall_mem_cons.mpr ⟨⟨ml_Law_59, xmv_TV_proper⟩, List.forall_mem_cons.mpr ⟨trivial, List.forall_mem_cons.mpr ⟨trivial, List.forall_mem_cons.mpr ⟨trivial, List.forall_mem_cons.mpr ⟨trivial, List.forall_mem_cons.mpr ⟨trivial, List.forall_mem_cons.mpr ⟨trivial, List.forall_mem_cons.mpr ⟨trivial, List.forall_mem_cons.mpr ⟨trivial, List.forall_mem_cons.mpr ⟨⟨ml_Law_62, xmv_TV_follows⟩, List.forall_mem_cons.mpr ⟨trivial, List.forall_mem_cons.mpr ⟨trivial, List.forall_mem_cons.mpr ⟨trivial, List.forall_mem_cons.mpr ⟨trivial, List.forall_mem_cons.mpr ⟨⟨ml_Law_65, xmv_TV_cost⟩, List.forall_mem_cons.mpr ⟨trivial, List.forall_mem_cons.mpr ⟨trivial, List.forall_mem_cons.mpr ⟨trivial, List.forall_mem_cons.mpr ⟨⟨ml_Law_68, xmv_TV_common⟩, List.forall_mem_cons.mpr ⟨trivial, List.forall_mem_cons.mpr ⟨trivial, List.forall_mem_cons.mpr ⟨trivial, List.forall_mem_cons.mpr ⟨trivial, List.forall_mem_cons.mpr ⟨trivial, List.forall_mem_cons.mpr ⟨trivial, List.forall_mem_cons.mpr ⟨⟨ml_Law_15, xmv_TV_turn⟩, List.forall_mem_cons.mpr ⟨trivial, List.forall_mem_cons.mpr ⟨trivial, List.forall_mem_cons.mpr ⟨trivial, List.forall_mem_cons.mpr ⟨trivial, List.forall_mem_cons.mpr ⟨trivial, List.forall_mem_cons.mpr ⟨⟨ml_Law_56, xmv_TV_add⟩, List.forall_mem_cons.mpr ⟨trivial, List.forall_mem_cons.mpr ⟨trivial, List.forall_mem_cons.mpr ⟨trivial, List.forall_mem_cons.mpr ⟨trivial, List.forall_mem_cons.mpr ⟨trivial, List.forall_mem_cons.mpr ⟨trivial, List.forall_mem_cons.mpr ⟨trivial, List.forall_mem_cons.mpr ⟨trivial, List.forall_mem_cons.mpr ⟨⟨ml_Law_52, xms_Law_cell⟩, List.forall_mem_cons.mpr ⟨trivial, List.forall_mem_cons.mpr ⟨trivial, List.forall_mem_cons.mpr ⟨trivial, List.forall_mem_cons.mpr ⟨trivial, List.forall_mem_cons.mpr ⟨trivial, List.forall_mem_cons.mpr ⟨trivial, List.forall_mem_cons.mpr ⟨trivial, List.forall_mem_cons.mpr ⟨trivial, List.forall_mem_cons.mpr ⟨trivial, List.forall_mem_cons.mpr ⟨trivial, List.forall_mem_cons.mpr ⟨trivial, List.forall_mem_cons.mpr ⟨trivial, List.forall_mem_cons.mpr ⟨trivial, List.forall_mem_cons.mpr ⟨trivial, List.forall_mem_cons.mpr ⟨⟨ml_Law_52, xms_Law_cell⟩, List.forall_mem_cons.mpr ⟨trivial, List.forall_mem_cons.mpr ⟨trivial, List.forall_mem_cons.mpr ⟨trivial, List.forall_mem_cons.mpr ⟨trivial, List.forall_mem_cons.mpr ⟨trivial, List.forall_mem_cons.mpr ⟨trivial, List.forall_mem_cons.mpr ⟨trivial, List.forall_mem_cons.mpr ⟨trivial, List.forall_mem_cons.mpr ⟨trivial, List.forall_mem_cons.mpr ⟨trivial, List.forall_mem_cons.mpr ⟨trivial, List.forall_mem_cons.mpr ⟨trivial, List.forall_mem_cons.mpr ⟨trivial, List.forall_mem_cons.mpr ⟨trivial, List.forall_mem_cons.mpr ⟨trivial, List.forall_mem_cons.mpr ⟨⟨ml_Law_71, xmv_TV_put⟩, List.forall_mem_cons.mpr ⟨trivial, List.forall_mem_cons.mpr ⟨trivial, List.forall_mem_cons.mpr ⟨trivial, List.forall_mem_cons.mpr ⟨trivial, List.forall_mem_cons.mpr ⟨trivial, List.forall_mem_cons.mpr ⟨trivial, List.forall_mem_cons.mpr ⟨trivial, List.forall_mem_cons.mpr ⟨trivial, List.forall_mem_cons.mpr ⟨trivial, List.forall_mem_cons.mpr ⟨⟨ml_Law_65, xmv_TV_cost⟩, List.forall_mem_cons.mpr ⟨trivial, List.forall_mem_cons.mpr ⟨trivial, List.forall_mem_cons.mpr ⟨trivial, List.forall_mem_cons.mpr ⟨trivial, List.forall_mem_cons.mpr ⟨trivial, List.forall_mem_cons.mpr ⟨trivial, List.forall_mem_cons.mpr ⟨trivial, List.forall_mem_cons.mpr ⟨trivial, List.forall_mem_cons.mpr ⟨trivial, List.forall_mem_cons.mpr ⟨trivial, List.forall_mem_cons.mpr ⟨trivial, List.forall_mem_cons.mpr ⟨trivial, List.forall_mem_cons.mpr ⟨trivial, List.forall_mem_cons.mpr ⟨trivial, List.forall_mem_cons.mpr ⟨trivial, List.forall_mem_cons.mpr ⟨⟨ml_Law_62, xmv_TV_follows⟩, List.forall_mem_cons.mpr ⟨trivial, List.forall_mem_cons.mpr ⟨trivial, List.forall_mem_cons.mpr ⟨trivial, List.forall_mem_cons.mpr ⟨trivial, List.forall_mem_cons.mpr ⟨trivial, List.forall_mem_cons.mpr ⟨trivial, List.forall_mem_cons.mpr ⟨trivial, List.forall_mem_cons.mpr ⟨trivial, List.forall_mem_cons.mpr ⟨trivial, List.forall_mem_cons.mpr ⟨trivial, List.forall_mem_cons.mpr ⟨trivial, List.forall_mem_cons.mpr ⟨trivial, List.forall_mem_cons.mpr ⟨⟨ml_Law_74, xmv_TV_best⟩, List.forall_mem_cons.mpr ⟨trivial, List.forall_mem_cons.mpr ⟨trivial, List.forall_mem_cons.mpr ⟨trivial, List.forall_mem_cons.mpr ⟨trivial, List.forall_mem_cons.mpr ⟨trivial, List.forall_mem_cons.mpr ⟨trivial, List.forall_mem_cons.mpr ⟨trivial, List.forall_mem_cons.mpr ⟨trivial, List.forall_mem_cons.mpr ⟨trivial, List.forall_mem_cons.mpr ⟨trivial, List.forall_mem_cons.mpr ⟨trivial, List.forall_mem_cons.mpr ⟨⟨ml_Law_65, xmv_TV_cost⟩, List.forall_mem_cons.mpr ⟨trivial, List.forall_mem_cons.mpr ⟨trivial, List.forall_mem_cons.mpr ⟨trivial, List.forall_mem_cons.mpr ⟨⟨ml_Law_65, xmv_TV_cost⟩, List.forall_mem_cons.mpr ⟨trivial, List.forall_mem_cons.mpr ⟨trivial, List.forall_mem_cons.mpr ⟨trivial, List.forall_mem_cons.mpr ⟨trivial, List.forall_mem_cons.mpr ⟨trivial, List.forall_mem_cons.mpr ⟨trivial, List.forall_mem_cons.mpr ⟨trivial, List.forall_mem_cons.mpr ⟨trivial, List.forall_mem_cons.mpr ⟨⟨ml_Law_15, xmv_TV_turn⟩, List.forall_mem_cons.mpr ⟨trivial, List.forall_mem_cons.mpr ⟨trivial, List.forall_mem_cons.mpr ⟨trivial, List.forall_mem_cons.mpr ⟨⟨ml_Law_15, xmv_TV_turn⟩, List.forall_mem_cons.mpr ⟨trivial, List.forall_mem_cons.mpr ⟨trivial, List.forall_mem_cons.mpr ⟨trivial, List.forall_mem_cons.mpr ⟨trivial, List.forall_mem_cons.mpr ⟨trivial, List.forall_mem_cons.mpr ⟨trivial, List.forall_mem_cons.mpr ⟨lw_gm 75 rfl rfl, List.forall_mem_cons.mpr ⟨trivial, List.forall_mem_cons.mpr ⟨trivial, List.forall_mem_cons.mpr ⟨trivial, List.forall_mem_cons.mpr ⟨trivial, List.forall_mem_cons.mpr ⟨trivial, List.forall_mem_cons.mpr ⟨trivial, List.forall_mem_cons.mpr ⟨trivial, List.forall_mem_cons.mpr ⟨trivial, List.forall_mem_cons.mpr ⟨trivial, List.forall_mem_cons.mpr ⟨trivial, List.forall_mem_cons.mpr ⟨trivial, List.forall_mem_cons.mpr ⟨trivial, List.forall_mem_cons.mpr ⟨trivial, List.forall_mem_cons.mpr ⟨trivial, List.forall_mem_cons.mpr ⟨trivial, List.forall_mem_cons.mpr ⟨trivial, List.forall_mem_cons.mpr ⟨trivial, List.forall_mem_cons.mpr ⟨⟨ml_Law_49, xmv_TV_word⟩, List.forall_mem_cons.mpr ⟨trivial, List.forall_mem_cons.mpr ⟨trivial, List.forall_mem_cons.mpr ⟨trivial, List.forall_mem_cons.mpr ⟨trivial, List.forall_mem_cons.mpr ⟨trivial, List.forall_mem_cons.mpr ⟨⟨ml_Law_52, xms_Law_cell⟩, List.forall_mem_cons.mpr ⟨trivial, List.forall_mem_cons.mpr ⟨trivial, List.forall_mem_cons.mpr ⟨trivial, List.forall_mem_cons.mpr ⟨trivial, List.forall_mem_cons.mpr ⟨trivial, List.forall_mem_cons.mpr ⟨trivial, List.forall_mem_cons.mpr ⟨trivial, List.forall_mem_cons.mpr ⟨trivial, List.forall_mem_cons.mpr ⟨trivial, List.forall_mem_cons.mpr ⟨trivial, List.forall_mem_cons.mpr ⟨trivial, List.forall_mem_cons.mpr ⟨trivial, List.forall_mem_cons.mpr ⟨trivial, List.forall_mem_cons.mpr ⟨trivial, List.forall_mem_cons.mpr ⟨trivial, List.forall_mem_cons.mpr ⟨⟨ml_Law_77, xmv_TV_lock⟩, List.forall_mem_cons.mpr ⟨trivial, List.forall_mem_cons.mpr ⟨trivial, List.forall_mem_cons.mpr ⟨trivial, List.forall_mem_cons.mpr ⟨trivial, List.forall_mem_cons.mpr ⟨trivial, List.forall_mem_cons.mpr ⟨trivial, List.forall_mem_cons.mpr ⟨trivial, List.forall_mem_cons.mpr ⟨⟨ml_Law_65, xmv_TV_cost⟩, List.forall_mem_cons.mpr ⟨trivial, List.forall_mem_cons.mpr ⟨trivial, List.forall_mem_cons.mpr ⟨trivial, List.forall_mem_cons.mpr ⟨trivial, List.forall_mem_cons.mpr ⟨trivial, List.forall_mem_cons.mpr ⟨trivial, List.forall_mem_cons.mpr ⟨trivial, List.forall_mem_cons.mpr ⟨trivial, List.forall_mem_cons.mpr ⟨⟨ml_Law_81, xmv_TV_mend⟩, List.forall_mem_cons.mpr ⟨trivial, List.forall_mem_cons.mpr ⟨trivial, List.forall_mem_cons.mpr ⟨trivial, List.forall_mem_cons.mpr ⟨trivial, List.forall_mem_cons.mpr ⟨⟨ml_Law_62, xmv_TV_follows⟩, List.forall_mem_cons.mpr ⟨trivial, List.forall_mem_cons.mpr ⟨trivial, List.forall_mem_cons.mpr ⟨trivial, List.forall_mem_cons.mpr ⟨trivial, List.forall_mem_cons.mpr ⟨⟨ml_Law_65, xmv_TV_cost⟩, List.forall_mem_cons.mpr ⟨trivial, List.forall_mem_cons.mpr ⟨trivial, List.forall_mem_cons.mpr ⟨trivial, List.forall_mem_cons.mpr ⟨trivial, List.forall_mem_cons.mpr ⟨⟨ml_Law_84, xms_Law_differences⟩, List.forall_mem_cons.mpr ⟨trivial, List.forall_mem_cons.mpr ⟨trivial, List.forall_mem_cons.mpr ⟨trivial, List.forall_mem_cons.mpr ⟨trivial, List.forall_mem_cons.mpr ⟨trivial, List.forall_mem_cons.mpr ⟨trivial, List.forall_mem_cons.mpr ⟨trivial, List.forall_mem_cons.mpr ⟨trivial, List.forall_mem_cons.mpr ⟨trivial, List.forall_mem_cons.mpr ⟨⟨ml_Law_49, xmv_TV_word⟩, List.forall_mem_cons.mpr ⟨trivial, List.forall_mem_cons.mpr ⟨trivial, List.forall_mem_cons.mpr ⟨trivial, List.forall_mem_cons.mpr ⟨trivial, List.forall_mem_cons.mpr ⟨trivial, List.forall_mem_cons.mpr ⟨trivial, List.forall_mem_cons.mpr ⟨trivial, List.forall_mem_cons.mpr ⟨trivial, List.forall_mem_cons.mpr ⟨trivial, List.forall_mem_cons.mpr ⟨trivial, List.forall_mem_cons.mpr ⟨trivial, List.forall_mem_cons.mpr ⟨⟨ml_Law_88, xmv_TV_undo⟩, List.forall_mem_cons.mpr ⟨trivial, List.forall_mem_cons.mpr ⟨trivial, List.forall_mem_cons.mpr ⟨trivial, List.forall_mem_cons.mpr ⟨trivial, List.forall_mem_cons.mpr ⟨⟨ml_Law_84, xms_Law_differences⟩, List.forall_mem_cons.mpr ⟨trivial, List.forall_mem_cons.mpr ⟨trivial, List.forall_mem_cons.mpr ⟨trivial, List.forall_mem_cons.mpr ⟨trivial, List.forall_mem_cons.mpr ⟨trivial, List.forall_mem_cons.mpr ⟨trivial, List.forall_mem_cons.mpr ⟨trivial, List.forall_mem_cons.mpr ⟨trivial, List.forall_mem_cons.mpr ⟨trivial, List.forall_mem_cons.mpr ⟨⟨ml_Law_77, xmv_TV_lock⟩, List.forall_mem_cons.mpr ⟨trivial, List.forall_mem_cons.mpr ⟨trivial, List.forall_mem_cons.mpr ⟨trivial, List.forall_mem_cons.mpr ⟨trivial, List.forall_mem_cons.mpr ⟨⟨ml_Law_81, xmv_TV_mend⟩, List.forall_mem_cons.mpr ⟨trivial, List.forall_mem_cons.mpr ⟨trivial, List.forall_mem_cons.mpr ⟨trivial, List.forall_mem_cons.mpr ⟨trivial, List.forall_mem_cons.mpr ⟨trivial, List.forall_mem_cons.mpr ⟨⟨ml_Law_84, xms_Law_differences⟩, List.forall_mem_cons.mpr ⟨trivial, List.forall_mem_cons.mpr ⟨trivial, List.forall_mem_cons.mpr ⟨trivial, List.forall_mem_cons.mpr ⟨trivial, List.forall_mem_cons.mpr ⟨trivial, List.forall_mem_cons.mpr ⟨trivial, List.forall_mem_cons.mpr ⟨trivial, List.forall_mem_cons.mpr ⟨trivial, List.forall_mem_cons.mpr ⟨trivial, List.forall_mem_cons.mpr ⟨trivial, List.forall_mem_cons.mpr ⟨trivial, List.forall_mem_cons.mpr ⟨trivial, List.forall_mem_cons.mpr ⟨⟨ml_Law_92, xmv_TV_turning⟩, List.forall_mem_cons.mpr ⟨trivial, List.forall_mem_cons.mpr ⟨trivial, List.forall_mem_cons.mpr ⟨trivial, List.forall_mem_cons.mpr ⟨⟨ml_Law_95, xmv_TV_drop⟩, List.forall_mem_cons.mpr ⟨trivial, List.forall_mem_cons.mpr ⟨trivial, List.forall_mem_cons.mpr ⟨trivial, List.forall_mem_cons.mpr ⟨trivial, List.forall_mem_cons.mpr ⟨trivial, List.forall_mem_cons.mpr ⟨trivial, List.forall_mem_cons.mpr ⟨trivial, List.forall_mem_cons.mpr ⟨trivial, fun _ h => absurd h List.not_mem_nil⟩⟩⟩⟩⟩⟩⟩⟩⟩⟩⟩⟩⟩⟩⟩⟩⟩⟩⟩⟩⟩⟩⟩⟩⟩⟩⟩⟩⟩⟩⟩⟩⟩⟩⟩⟩⟩⟩⟩⟩⟩⟩⟩⟩⟩⟩⟩⟩⟩⟩⟩⟩⟩⟩⟩⟩⟩⟩⟩⟩⟩⟩⟩⟩⟩⟩⟩⟩⟩⟩⟩⟩⟩⟩⟩⟩⟩⟩⟩⟩⟩⟩⟩⟩⟩⟩⟩⟩⟩⟩⟩⟩⟩⟩⟩⟩⟩⟩⟩⟩⟩⟩⟩⟩⟩⟩⟩⟩⟩⟩⟩⟩⟩⟩⟩⟩⟩⟩⟩⟩⟩⟩⟩⟩⟩⟩⟩⟩⟩⟩⟩⟩⟩⟩⟩⟩⟩⟩⟩⟩⟩⟩⟩⟩⟩⟩⟩⟩⟩⟩⟩⟩⟩⟩⟩⟩⟩⟩⟩⟩⟩⟩⟩⟩⟩⟩⟩⟩⟩⟩⟩⟩⟩⟩⟩⟩⟩⟩⟩⟩⟩⟩⟩⟩⟩⟩⟩⟩⟩⟩⟩⟩⟩⟩⟩⟩⟩⟩⟩⟩⟩⟩⟩⟩⟩⟩⟩⟩⟩⟩⟩⟩⟩⟩⟩⟩⟩⟩⟩⟩⟩⟩⟩⟩⟩⟩⟩⟩⟩⟩⟩⟩⟩⟩⟩⟩⟩⟩⟩⟩⟩⟩⟩⟩⟩⟩⟩⟩⟩⟩⟩⟩⟩⟩⟩⟩⟩⟩⟩⟩⟩⟩⟩⟩⟩⟩⟩⟩⟩⟩⟩⟩⟩⟩⟩⟩⟩⟩⟩⟩⟩⟩⟩⟩⟩⟩⟩⟩⟩⟩⟩⟩⟩⟩⟩⟩⟩⟩⟩⟩⟩⟩⟩⟩⟩⟩⟩⟩⟩⟩⟩⟩⟩⟩⟩
def k_Law_law : xCd := [
  (0, .new 16, 3, .inl (8, 8)),
  (3, .dup, 1, .inl (0, 0)),
  (4, .invokespecial 98, 3, .inr (.inl g_TV_init)),
  (7, .astore_n 1, 1, .inl (0, 0)),
  (8, .iconst 2, 1, .inr (.inr (.inl (nI 2)))),
  (9, .aload_n 0, 1, .inl (0, 0)),
  (10, .iconst 0, 1, .inr (.inr (.inl (nI 0)))),
  (11, .invokestatic 52, 3, .inr (.inl g_Law_cell)),
  (14, .iconst 5, 1, .inr (.inr (.inl (nI 5)))),
  (15, .irem, 1, .inl (0, 0)),
  (16, .iadd, 1, .inl (0, 0)),
  (17, .istore_n 2, 1, .inl (0, 0)),
  (18, .aload_n 0, 1, .inl (0, 0)),
  (19, .iconst 1, 1, .inr (.inr (.inl (nI 1)))),
  (20, .invokestatic 52, 3, .inr (.inl g_Law_cell)),
  (23, .iload_n 2, 1, .inl (0, 0)),
  (24, .invokestatic 9, 3, .inr (.inl g_Law_all)),
  (27, .irem, 1, .inl (0, 0)),
  (28, .istore_n 3, 1, .inl (0, 0)),
  (29, .aload_n 0, 1, .inl (0, 0)),
  (30, .iconst 2, 1, .inr (.inr (.inl (nI 2)))),
  (31, .invokestatic 52, 3, .inr (.inl g_Law_cell)),
  (34, .iload_n 2, 1, .inl (0, 0)),
  (35, .invokestatic 9, 3, .inr (.inl g_Law_all)),
  (38, .irem, 1, .inl (0, 0)),
  (39, .istore 4, 2, .inl (0, 0)),
  (41, .aload_n 1, 1, .inl (0, 0)),
  (42, .iload_n 2, 1, .inl (0, 0)),
  (43, .invokevirtual 99, 3, .inr (.inl g_TV_setWords)),
  (46, .bipush 6, 2, .inr (.inr (.inl (nI 6)))),
  (48, .if_icmp .ne 34, 3, .inl (82, 0)),
  (51, .aload_n 1, 1, .inl (0, 0)),
  (52, .iconst 0, 1, .inr (.inr (.inl (nI 0)))),
  (53, .iload_n 3, 1, .inl (0, 0)),
  (54, .invokevirtual 31, 3, .inr (.inl g_TV_unrank)),
  (57, .iconst 1, 1, .inr (.inr (.inl (nI 1)))),
  (58, .if_icmp .lt 24, 3, .inl (82, 0)),
  (61, .aload_n 1, 1, .inl (0, 0)),
  (62, .iconst 1, 1, .inr (.inr (.inl (nI 1)))),
  (63, .iload 4, 2, .inl (0, 0)),
  (65, .invokevirtual 31, 3, .inr (.inl g_TV_unrank)),
  (68, .iconst 1, 1, .inr (.inr (.inl (nI 1)))),
  (69, .if_icmp .lt 13, 3, .inl (82, 0)),
  (72, .aload_n 1, 1, .inl (0, 0)),
  (73, .iconst 0, 1, .inr (.inr (.inl (nI 0)))),
  (74, .iconst 0, 1, .inr (.inr (.inl (nI 0)))),
  (75, .invokevirtual 15, 3, .inr (.inl g_TV_turn)),
  (78, .iload_n 3, 1, .inl (0, 0)),
  (79, .if_icmp .eq 5, 3, .inl (84, 0)),
  (82, .iconst 0, 1, .inr (.inr (.inl (nI 0)))),
  (83, .ireturn, 1, .inl (0, 0)),
  (84, .aload_n 1, 1, .inl (0, 0)),
  (85, .iload_n 2, 1, .inl (0, 0)),
  (86, .iload_n 3, 1, .inl (0, 0)),
  (87, .iload 4, 2, .inl (0, 0)),
  (89, .invokestatic 102, 3, .inr (.inl g_Law_powers)),
  (92, .ifCond .eq 55, 3, .inl (147, 0)),
  (95, .aload_n 1, 1, .inl (0, 0)),
  (96, .iload_n 2, 1, .inl (0, 0)),
  (97, .aload_n 0, 1, .inl (0, 0)),
  (98, .iconst 3, 1, .inr (.inr (.inl (nI 3)))),
  (99, .invokestatic 52, 3, .inr (.inl g_Law_cell)),
  (102, .invokestatic 106, 3, .inr (.inl g_Law_products)),
  (105, .ifCond .eq 42, 3, .inl (147, 0)),
  (108, .aload_n 1, 1, .inl (0, 0)),
  (109, .aload_n 0, 1, .inl (0, 0)),
  (110, .bipush 13, 2, .inr (.inr (.inl (nI 13)))),
  (112, .invokestatic 52, 3, .inr (.inl g_Law_cell)),
  (115, .invokestatic 110, 3, .inr (.inl g_Law_roots)),
  (118, .ifCond .eq 29, 3, .inl (147, 0)),
  (121, .aload_n 1, 1, .inl (0, 0)),
  (122, .iload_n 2, 1, .inl (0, 0)),
  (123, .aload_n 0, 1, .inl (0, 0)),
  (124, .invokestatic 114, 3, .inr (.inl g_Law_mends)),
  (127, .ifCond .eq 20, 3, .inl (147, 0)),
  (130, .aload_n 1, 1, .inl (0, 0)),
  (131, .iconst 0, 1, .inr (.inr (.inl (nI 0)))),
  (132, .iload_n 2, 1, .inl (0, 0)),
  (133, .invokestatic 9, 3, .inr (.inl g_Law_all)),
  (136, .invokevirtual 31, 3, .inr (.inl g_TV_unrank)),
  (139, .iconst (-1), 1, .inr (.inr (.inl (-1)))),
  (140, .if_icmp .ne 7, 3, .inl (147, 0)),
  (143, .iconst 1, 1, .inr (.inr (.inl (nI 1)))),
  (144, .goto 4, 3, .inl (148, 0)),
  (147, .iconst 0, 1, .inr (.inr (.inl (nI 0)))),
  (148, .ireturn, 1, .inl (0, 0))]
set_option maxRecDepth 100000 in
set_option maxHeartbeats 4000000 in
theorem ok_Law_law : xOK g_Law_law k_Law_law := ⟨by decide +kernel, by decide +kernel, List.forall_mem_cons.mpr ⟨⟨_, rfl, rfl, lw_gm 30 rfl rfl, lw_gm 31 rfl rfl, lw_gm 15 rfl rfl⟩, List.forall_mem_cons.mpr ⟨trivial, List.forall_mem_cons.mpr ⟨⟨ml_Law_98, xmi_TV_init⟩, List.forall_mem_cons.mpr ⟨trivial, List.forall_mem_cons.mpr ⟨trivial, List.forall_mem_cons.mpr ⟨trivial, List.forall_mem_cons.mpr ⟨trivial, List.forall_mem_cons.mpr ⟨⟨ml_Law_52, xms_Law_cell⟩, List.forall_mem_cons.mpr ⟨trivial, List.forall_mem_cons.mpr ⟨trivial, List.forall_mem_cons.mpr ⟨trivial, List.forall_mem_cons.mpr ⟨trivial, List.forall_mem_cons.mpr ⟨trivial, List.forall_mem_cons.mpr ⟨trivial, List.forall_mem_cons.mpr ⟨⟨ml_Law_52, xms_Law_cell⟩, List.forall_mem_cons.mpr ⟨trivial, List.forall_mem_cons.mpr ⟨⟨ml_Law_9, xms_Law_all⟩, List.forall_mem_cons.mpr ⟨trivial, List.forall_mem_cons.mpr ⟨trivial, List.forall_mem_cons.mpr ⟨trivial, List.forall_mem_cons.mpr ⟨trivial, List.forall_mem_cons.mpr ⟨⟨ml_Law_52, xms_Law_cell⟩, List.forall_mem_cons.mpr ⟨trivial, List.forall_mem_cons.mpr ⟨⟨ml_Law_9, xms_Law_all⟩, List.forall_mem_cons.mpr ⟨trivial, List.forall_mem_cons.mpr ⟨trivial, List.forall_mem_cons.mpr ⟨trivial, List.forall_mem_cons.mpr ⟨trivial, List.forall_mem_cons.mpr ⟨⟨ml_Law_99, xmv_TV_setWords⟩, List.forall_mem_cons.mpr ⟨trivial, List.forall_mem_cons.mpr ⟨trivial, List.forall_mem_cons.mpr ⟨trivial, List.forall_mem_cons.mpr ⟨trivial, List.forall_mem_cons.mpr ⟨trivial, List.forall_mem_cons.mpr ⟨⟨ml_Law_31, xmv_TV_unrank⟩, List.forall_mem_cons.mpr ⟨trivial, List.forall_mem_cons.mpr ⟨trivial, List.forall_mem_cons.mpr ⟨trivial, List.forall_mem_cons.mpr ⟨trivial, List.forall_mem_cons.mpr ⟨trivial, List.forall_mem_cons.mpr ⟨⟨ml_Law_31, xmv_TV_unrank⟩, List.forall_mem_cons.mpr ⟨trivial, List.forall_mem_cons.mpr ⟨trivial, List.forall_mem_cons.mpr ⟨trivial, List.forall_mem_cons.mpr ⟨trivial, List.forall_mem_cons.mpr ⟨trivial, List.forall_mem_cons.mpr ⟨⟨ml_Law_15, xmv_TV_turn⟩, List.forall_mem_cons.mpr ⟨trivial, List.forall_mem_cons.mpr ⟨trivial, List.forall_mem_cons.mpr ⟨trivial, List.forall_mem_cons.mpr ⟨trivial, List.forall_mem_cons.mpr ⟨trivial, List.forall_mem_cons.mpr ⟨trivial, List.forall_mem_cons.mpr ⟨trivial, List.forall_mem_cons.mpr ⟨trivial, List.forall_mem_cons.mpr ⟨⟨ml_Law_102, xms_Law_powers⟩, List.forall_mem_cons.mpr ⟨trivial, List.forall_mem_cons.mpr ⟨trivial, List.forall_mem_cons.mpr ⟨trivial, List.forall_mem_cons.mpr ⟨trivial, List.forall_mem_cons.mpr ⟨trivial, List.forall_mem_cons.mpr ⟨⟨ml_Law_52, xms_Law_cell⟩, List.forall_mem_cons.mpr ⟨⟨ml_Law_106, xms_Law_products⟩, List.forall_mem_cons.mpr ⟨trivial, List.forall_mem_cons.mpr ⟨trivial, List.forall_mem_cons.mpr ⟨trivial, List.forall_mem_cons.mpr ⟨trivial, List.forall_mem_cons.mpr ⟨⟨ml_Law_52, xms_Law_cell⟩, List.forall_mem_cons.mpr ⟨⟨ml_Law_110, xms_Law_roots⟩, List.forall_mem_cons.mpr ⟨trivial, List.forall_mem_cons.mpr ⟨trivial, List.forall_mem_cons.mpr ⟨trivial, List.forall_mem_cons.mpr ⟨trivial, List.forall_mem_cons.mpr ⟨⟨ml_Law_114, xms_Law_mends⟩, List.forall_mem_cons.mpr ⟨trivial, List.forall_mem_cons.mpr ⟨trivial, List.forall_mem_cons.mpr ⟨trivial, List.forall_mem_cons.mpr ⟨trivial, List.forall_mem_cons.mpr ⟨⟨ml_Law_9, xms_Law_all⟩, List.forall_mem_cons.mpr ⟨⟨ml_Law_31, xmv_TV_unrank⟩, List.forall_mem_cons.mpr ⟨trivial, List.forall_mem_cons.mpr ⟨trivial, List.forall_mem_cons.mpr ⟨trivial, List.forall_mem_cons.mpr ⟨trivial, List.forall_mem_cons.mpr ⟨trivial, List.forall_mem_cons.mpr ⟨trivial, fun _ h => absurd h List.not_mem_nil⟩⟩⟩⟩⟩⟩⟩⟩⟩⟩⟩⟩⟩⟩⟩⟩⟩⟩⟩⟩⟩⟩⟩⟩⟩⟩⟩⟩⟩⟩⟩⟩⟩⟩⟩⟩⟩⟩⟩⟩⟩⟩⟩⟩⟩⟩⟩⟩⟩⟩⟩⟩⟩⟩⟩⟩⟩⟩⟩⟩⟩⟩⟩⟩⟩⟩⟩⟩⟩⟩⟩⟩⟩⟩⟩⟩⟩⟩⟩⟩⟩⟩⟩⟩⟩⟩⟩
end
section
/-! HELP: numbers, steps of conditions, rows of small numbers packed in an int -/
theorem xgoal {lim : Nat × Nat} {g : xSig} {cd : xCd} {Q : Option Value → xHp → Prop} (cut : List (Nat × List Nat)) (n : Nat) (ok : xOK g cd) {pc : Nat} {L : xLo} {st : List Value} {h : xHp} (hs : wp lim g cd cut (xAt lim g Q) Q n pc L st h) : xAt lim g Q pc L st h := wp_sound ok (fun _ _ _ _ z => z) n pc L st h hs
theorem n_and (a b : Nat) : nI a &&& nI b = nI (a &&& b) := by
  apply Int32.toBitVec_inj.1
  show BitVec.ofNat 32 a &&& BitVec.ofNat 32 b = BitVec.ofNat 32 (a &&& b)
  apply BitVec.eq_of_getLsbD_eq
  intro i hi
  simp [hi]
theorem n_or (a b : Nat) : nI a ||| nI b = nI (a ||| b) := by
  apply Int32.toBitVec_inj.1
  show BitVec.ofNat 32 a ||| BitVec.ofNat 32 b = BitVec.ofNat 32 (a ||| b)
  apply BitVec.eq_of_getLsbD_eq
  intro i hi
  simp [hi]
theorem n_xor (a b : Nat) : nI a ^^^ nI b = nI (a ^^^ b) := by
  apply Int32.toBitVec_inj.1
  show BitVec.ofNat 32 a ^^^ BitVec.ofNat 32 b = BitVec.ofNat 32 (a ^^^ b)
  apply BitVec.eq_of_getLsbD_eq
  intro i hi
  simp [hi]
theorem n_mul (a b : Nat) : nI a * nI b = nI (a * b) := pk_mul a b
theorem n_m1 : (-1 : Int32) = nI 4294967295 := by decide +kernel
theorem n_sh : ∀ k, k < 32 → ((nI k &&& 31).toBitVec.smod 32).toNat = k := by decide +kernel
theorem n_shl (n k : Nat) (hk : k < 32) : nI n <<< (nI k &&& 31) = nI (n * 2 ^ k) := by
  have hn : nI n = nI (n % 2 ^ 32) := by
    apply Int32.toBitVec_inj.1
    apply BitVec.eq_of_toNat_eq
    show n % 2 ^ 32 = n % 2 ^ 32 % 2 ^ 32
    omega
  apply Int32.toBitVec_inj.mp
  apply BitVec.eq_of_toNat_eq
  rw [pk_shl _ _ k (n_sh k hk)]
  show (n % 2 ^ 32) * 2 ^ k % 2 ^ 32 = n * 2 ^ k % 2 ^ 32
  rw [Nat.mod_mul_mod]
theorem n_shr {n k : Nat} (hn : n < 2 ^ 31) (hk : k < 32) : nI n >>> (nI k &&& 31) = nI (n / 2 ^ k) := pk_shrN hn _ k (n_sh k hk)
theorem n_inj {a b : Nat} (ha : a < 2 ^ 31) (hb : b < 2 ^ 31) (h : nI a = nI b) : a = b := (nI_eq ha hb).mp h
/-! steps -/
theorem xgf {h : xHp} {a ci n : Nat} {fs : List Value} {v : Value} {P : Value → Prop} (ha : xat h a (xob ci fs)) (hv : fs[n]? = some v) (p : P v) : ∃ fs v, xat h a (xob ci fs) ∧ fs[n]? = some v ∧ P v := ⟨fs, v, ha, hv, p⟩
theorem xpf {h : xHp} {a ci n : Nat} {fs : List Value} {b : Bool} {P : List Value → Prop} (ha : xat h a (xob ci fs)) (hl : n < fs.length) (hb : b = true) (p : P fs) : ∃ fs, xat h a (xob ci fs) ∧ n < fs.length ∧ bif b then P fs else False := ⟨fs, ha, hl, by rw [hb]; exact p⟩
theorem xal {h : xHp} {a n j : Nat} {i : Int32} {f : Nat → Int32} {P : Nat → (Nat → Int32) → Nat → Prop} (ha : xat h a (xia n f)) (hi : i = nI j) (hj : j < n) (hn : n < 2147483648) (p : P n f j) : ∃ n f j, xat h a (xia n f) ∧ xix i j n ∧ P n f j := ⟨n, f, j, ha, ⟨hi, hj, hn⟩, p⟩
theorem xra_ {h : xHp} {a n j q : Nat} {i : Int32} {f : Nat → Option Nat} {P : Nat → Prop} (ha : xat h a (xra n f)) (hi : i = nI j) (hj : j < n) (hn : n < 2147483648) (hf : f j = some q) (p : P q) : ∃ n f j q, xat h a (xra n f) ∧ xix i j n ∧ f j = some q ∧ P q := ⟨n, f, j, q, ha, ⟨hi, hj, hn⟩, hf, p⟩
theorem xci {ZZ : Prop} {g : xSig} {As : List Value} {h h' : xHp} {r : Int32} {K : Int32 → xHp → Prop} (sp : Spec g As h (some (.int r)) h') (p : K r h') : (∃ P : Option Value → xHp → Prop, SpecR g As h P ∧ ∀ (r : Int32) (h' : xHp), P (some (.int r)) h' → K r h') ∨ ZZ := Or.inl (⟨_, sp, fun _ _ z => by obtain ⟨z1, rfl⟩ := z; cases z1; exact p⟩)
theorem xcl_ {ZZ : Prop} {g : xSig} {As : List Value} {h h' : xHp} {r : Int64} {K : Int64 → xHp → Prop} (sp : Spec g As h (some (.long r)) h') (p : K r h') : (∃ P : Option Value → xHp → Prop, SpecR g As h P ∧ ∀ (r : Int64) (h' : xHp), P (some (.long r)) h' → K r h') ∨ ZZ := Or.inl (⟨_, sp, fun _ _ z => by obtain ⟨z1, rfl⟩ := z; cases z1; exact p⟩)
theorem xcv_ {ZZ : Prop} {g : xSig} {As : List Value} {h h' : xHp} {K : xHp → Prop} (sp : Spec g As h none h') (p : K h') : (∃ P : Option Value → xHp → Prop, SpecR g As h P ∧ ∀ h' : xHp, P none h' → K h') ∨ ZZ := Or.inl (⟨_, sp, fun _ z => by obtain ⟨-, rfl⟩ := z; exact p⟩)
theorem xri {ZZ : Prop} {g : xSig} {As : List Value} {h : xHp} {P : Option Value → xHp → Prop} {K : Int32 → xHp → Prop} (sp : SpecR g As h P) (p : ∀ (r : Int32) (h' : xHp), P (some (.int r)) h' → K r h') : (∃ P : Option Value → xHp → Prop, SpecR g As h P ∧ ∀ (r : Int32) (h' : xHp), P (some (.int r)) h' → K r h') ∨ ZZ := Or.inl (⟨P, sp, p⟩)
theorem xrv {ZZ : Prop} {g : xSig} {As : List Value} {h : xHp} {P : Option Value → xHp → Prop} {K : xHp → Prop} (sp : SpecR g As h P) (p : ∀ h' : xHp, P none h' → K h') : (∃ P : Option Value → xHp → Prop, SpecR g As h P ∧ ∀ h' : xHp, P none h' → K h') ∨ ZZ := Or.inl (⟨P, sp, p⟩)
theorem up_loop {P : Nat → Prop} (e : Nat) (hend : P e) (hstep : ∀ i, i < e → P (i + 1) → P i) : ∀ i, i ≤ e → P i := by
  intro i hi
  have key : ∀ k i, i + k = e → P i := by
    intro k
    induction k with
    | zero => intro i h; have : i = e := by omega
              subst this; exact hend
    | succ k ih => intro i h; exact hstep i (by omega) (ih (i + 1) (by omega))
  exact key (e - i) i (by omega)
theorem xat_set {h : xHp} {a b : Nat} {e e' : xE} (ha : xat h a e) (hne : a ≠ b) : xat (xset h b e') a e := ⟨ha.1, (va_up_ne h.2.2 e' hne).trans ha.2⟩
theorem xat_self {h : xHp} {a : Nat} {e : xE} (e' : xE) (ha : xat h a e) : xat (xset h a e') a e' := ⟨ha.1, va_up_self h.2.2 a e'⟩
/-! a row of up to seven small numbers, three bits each -/
def pak (f : Nat → Nat) : Nat → Nat
  | 0 => 0
  | n + 1 => 2 ^ (3 * n) * f n + pak f n
def R (f : Nat → Nat) : Int32 := nI (pak f 7)
def upn (f : Nat → Nat) (k v : Nat) : Nat → Nat := fun j => if j = k then v else f j
theorem pak_lt {f : Nat → Nat} : ∀ {n : Nat}, (∀ i, i < n → f i < 8) → pak f n < 2 ^ (3 * n)
  | 0, _ => Nat.zero_lt_one
  | n + 1, h => by
    have h1 := pak_lt (n := n) (fun i hi => h i (by omega))
    have h2 := h n (by omega)
    have h3 : 2 ^ (3 * (n + 1)) = 2 ^ (3 * n) * 8 := by rw [Nat.mul_add, Nat.pow_add]
    have h4 : 2 ^ (3 * n) * f n ≤ 2 ^ (3 * n) * 7 := Nat.mul_le_mul_left _ (by omega)
    unfold pak
    omega
theorem pak_bit {f : Nat → Nat} : ∀ {n : Nat}, (∀ i, i < n → f i < 8) → ∀ t, (pak f n).testBit t = if t < 3 * n then (f (t / 3)).testBit (t % 3) else false
  | 0, _, t => by simp [pak]
  | n + 1, h, t => by
    have h1 := pak_lt (n := n) (fun i hi => h i (by omega))
    have ih := pak_bit (n := n) (fun i hi => h i (by omega)) t
    unfold pak
    rw [Nat.testBit_two_pow_mul_add _ h1]
    by_cases ht : t < 3 * n
    · rw [if_pos ht, ih, if_pos ht, if_pos (by omega)]
    · rw [if_neg ht]
      by_cases ht2 : t < 3 * (n + 1)
      · rw [if_pos ht2, show t / 3 = n by omega, show t % 3 = t - 3 * n by omega]
      · rw [if_neg ht2]
        exact Nat.testBit_lt_two_pow (Nat.lt_of_lt_of_le (h n (by omega)) (by
          have : 2 ^ 3 ≤ 2 ^ (t - 3 * n) := Nat.pow_le_pow_right (by omega) (by omega)
          omega))
theorem pak_congr {f g : Nat → Nat} : ∀ {n : Nat}, (∀ i, i < n → f i = g i) → pak f n = pak g n
  | 0, _ => rfl
  | n + 1, h => by
    unfold pak
    rw [pak_congr (n := n) (fun i hi => h i (by omega)), h n (by omega)]
theorem R_congr {f g : Nat → Nat} (h : ∀ i, i < 7 → f i = g i) : R f = R g := by unfold R; rw [pak_congr h]
theorem pak7 {f : Nat → Nat} (h : ∀ i, i < 7 → f i < 8) : pak f 7 < 2097152 := pak_lt h
theorem pak_get {f : Nat → Nat} {i : Nat} (h : ∀ i, i < 7 → f i < 8) (hi : i < 7) : pak f 7 / 2 ^ (3 * i) % 8 = f i := by
  apply Nat.eq_of_testBit_eq
  intro t
  rw [show (8 : Nat) = 2 ^ 3 from rfl, Nat.testBit_mod_two_pow, Nat.testBit_div_two_pow, pak_bit h]
  by_cases ht : t < 3
  · rw [if_pos (by omega), show (t + 3 * i) / 3 = i by omega, show (t + 3 * i) % 3 = t by omega]
    simp [ht]
  · simp only [ht, decide_false, Bool.false_and]
    exact (Nat.testBit_lt_two_pow (Nat.lt_of_lt_of_le (h i hi) (by
      have : 2 ^ 3 ≤ 2 ^ t := Nat.pow_le_pow_right (by omega) (by omega)
      omega))).symm
theorem R_inj {f g : Nat → Nat} (hf : ∀ i, i < 7 → f i < 8) (hg : ∀ i, i < 7 → g i < 8) (h : R f = R g) : ∀ i, i < 7 → f i = g i := by
  intro i hi
  have h1 := pak7 hf
  have h2 := pak7 hg
  have h3 := n_inj (by omega) (by omega) h
  rw [← pak_get hf hi, ← pak_get hg hi, h3]
theorem R_entry {f : Nat → Nat} {i : Nat} (h : ∀ i, i < 7 → f i < 8) (hi : i < 7) : (R f >>> ((nI 3 * nI i) &&& 31)) &&& nI 7 = nI (f i) := by
  have h1 := pak7 h
  unfold R
  rw [n_mul, n_shr (by omega) (by omega), n_and, show (7 : Nat) = 2 ^ 3 - 1 from rfl, Nat.and_two_pow_sub_one_eq_mod]
  rw [show (2 : Nat) ^ 3 = 8 from rfl, pak_get h hi]
theorem R_with {f : Nat → Nat} {i v : Nat} (h : ∀ i, i < 7 → f i < 8) (hi : i < 7) (hv : v < 8) : (R f &&& ((nI 7 <<< ((nI 3 * nI i) &&& 31)) ^^^ -1)) ||| (nI v <<< ((nI 3 * nI i) &&& 31)) = R (upn f i v) := by
  have h1 := pak7 h
  have h' : ∀ j, j < 7 → upn f i v j < 8 := fun j hj => by
    unfold upn
    split
    · exact hv
    · exact h j hj
  unfold R
  rw [n_mul, n_shl _ _ (by omega), n_shl _ _ (by omega), n_m1, n_xor, n_and, n_or]
  congr 1
  apply Nat.eq_of_testBit_eq
  intro t
  rw [Nat.testBit_or, Nat.testBit_and, Nat.testBit_xor, pak_bit h, pak_bit h', Nat.testBit_mul_two_pow, Nat.testBit_mul_two_pow, show (4294967295 : Nat) = 2 ^ 32 - 1 from rfl, Nat.testBit_two_pow_sub_one, show (7 : Nat) = 2 ^ 3 - 1 from rfl, Nat.testBit_two_pow_sub_one]
  by_cases ht : t < 3 * (2 ^ 3 - 1)
  · rw [if_pos ht, if_pos ht]
    have ht : t < 21 := ht
    unfold upn
    by_cases e : t / 3 = i
    · rw [if_pos e]
      have e1 : 3 * i ≤ t := by omega
      have e2 : t - 3 * i < 3 := by omega
      have e3 : t < 32 := by omega
      simp [e1, e2, e3]
      rw [show t % 3 = t - 3 * i by omega]
    · rw [if_neg e]
      have e3 : t < 32 := by omega
      by_cases e1 : 3 * i ≤ t
      · have e2 : ¬ t - 3 * i < 3 := by omega
        have e4 : v.testBit (t - 3 * i) = false := Nat.testBit_lt_two_pow (Nat.lt_of_lt_of_le hv (by
          have : 2 ^ 3 ≤ 2 ^ (t - 3 * i) := Nat.pow_le_pow_right (by omega) (by omega)
          omega))
        simp [e1, e2, e3, e4]
      · simp [e1, e3]
  · rw [if_neg ht, if_neg ht]
    have ht : ¬ t < 21 := ht
    have e4 : (decide (3 * i ≤ t) && v.testBit (t - 3 * i)) = false := by
      by_cases e1 : 3 * i ≤ t
      · rw [Nat.testBit_lt_two_pow (Nat.lt_of_lt_of_le hv (by
          have : 2 ^ 3 ≤ 2 ^ (t - 3 * i) := Nat.pow_le_pow_right (by omega) (by omega)
          omega))]
        simp
      · simp [e1]
    rw [e4]
    simp
theorem xrn_ {lim : Nat × Nat} {g : xSig} {As : List Value} {h : xHp} {mc ms : Nat} {P : Option Value → xHp → Prop} {k : List Value → xHp → Prop} {ZZ : Prop} (sp : SpecN g As h mc ms P) (l1 : h.1 + mc ≤ lim.1) (l2 : h.2.1 + ms ≤ lim.2) (p : ∀ v h', P v h' → k v.toList h') : ZZ ∨ ∃ mc ms, ∃ P : Option Value → xHp → Prop, SpecN g As h mc ms P ∧ h.1 + mc ≤ lim.1 ∧ h.2.1 + ms ≤ lim.2 ∧ ∀ v h', P v h' → k v.toList h' := Or.inr ⟨mc, ms, P, sp, l1, l2, p⟩
end
