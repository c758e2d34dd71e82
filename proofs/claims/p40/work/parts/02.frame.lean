/-! THE ABSTRACT MACHINE: heaps as functions of relative addresses, a generator of conditions (wp) over the decoded code, and its soundness over the kit's W -/
abbrev xE : Type := (Nat × (Nat → Int32)) ⊕ ((Nat × (Nat → Option Nat)) ⊕ (Nat × List Value))
abbrev xia (n : Nat) (f : Nat → Int32) : xE := .inl (n, f)
abbrev xra (n : Nat) (g : Nat → Option Nat) : xE := .inr (.inl (n, g))
abbrev xob (c : Nat) (fs : List Value) : xE := .inr (.inr (c, fs))
abbrev xHp : Type := Nat × Nat × (Nat → xE)
def xat (h : xHp) (a : Nat) (e : xE) : Prop := a < h.1 ∧ h.2.2 a = e
def xset (h : xHp) (a : Nat) (e : xE) : xHp := (h.1, h.2.1, va_up h.2.2 a e)
def xnew (h : xHp) (n : Nat) (e : xE) : xHp := (h.1 + 1, h.2.1 + n, va_up h.2.2 h.1 e)
/-- the base of the cells, and the script's cell -/
abbrev xB : Type := Nat × Nat
abbrev xLo : Type := List (Nat × Value)
def xcv (b : xB) : Value → Value
  | .ref k => .ref (b.1 + k)
  | .retAddr _ => .ref b.2
  | v => v
def xce (cI cR : ClassId) (b : xB) : xE → va_E
  | .inl (n, f) => .inl (cI, (n, .inl f))
  | .inr (.inl (n, g)) => .inl (cR, (n, .inr (.inr (.inr (.inr (fun j => (g j).map (fun k => b.1 + k)))))))
  | .inr (.inr (c, fs)) => .inr (c, fs.map (xcv b))
def xtys (cI cR : ClassId) : List (ClassId × FieldType) := [(cI, .int), (cR, .object xrn)]
def xWd (D : va_G) (cI cR : ClassId) (b : xB) (h : xHp) (H : Heap) : Prop := H.size = b.1 + h.1 ∧ ∀ k, k < h.1 → va_at D xcl (b.1 + k, xce cI cR b (h.2.2 k)) H
/-- the script: an array of ints below the base -/
def xSc (b : xB) (U : State) (H : Heap) : Prop := b.2 < b.1 ∧ ∃ (L : Nat) (xs : Nat → Int32), va_X b.2 L xs U H ∧ L < 2147483648
def xKk (D : va_G) (cI cR : ClassId) (U : State) : Prop := va_K D xcl (xtys cI cR) U ∧ va_AO xrn U
theorem xKk.moved {D : va_G} {cI cR : ClassId} {u U : State} (hvm : u.vm.Alike U.vm) (h : xKk D cI cR u) : xKk D cI cR U := ⟨va_K.moved hvm h.1, va_AO.moved hvm h.2⟩
/-- a signature: name, bytes, locals, answer's type, frames, words of locals below, parameters, the receiver's class -/
abbrev xSig : Type := MethodName × ByteArray × Nat × Option FieldType × Nat × Nat × Nat × Option Nat
abbrev sgN (g : xSig) : MethodName := g.1
abbrev sgB (g : xSig) : ByteArray := g.2.1
abbrev sgL (g : xSig) : Nat := g.2.2.1
abbrev sgR (g : xSig) : Option FieldType := g.2.2.2.1
abbrev sgF (g : xSig) : Nat := g.2.2.2.2.1
abbrev sgO (g : xSig) : Nat := g.2.2.2.2.2.1
abbrev sgP (g : xSig) : Nat := g.2.2.2.2.2.2.1
abbrev sgV (g : xSig) : Option Nat := g.2.2.2.2.2.2.2
def xwd (g : xSig) : List Cond := Cond.code (sgN g) (sgB g) (sgL g) (sgR g) :: lw_g
def xrm (g : xSig) (mc ms : Nat) : Room := { frames := sgF g, cells := mc, slots := ms, locals := sgO g }
abbrev xL : Type := (Nat × Nat) ⊕ (xSig ⊕ (Int32 ⊕ (Int64 ⊕ (Nat × List (Int32 × Nat)))))
abbrev xI : Type := Instr × Nat × xL
abbrev xCd : Type := List (Nat × xI)
/-! the contract of a method at one start and one end -/
def xQc (D : va_G) (cI cR : ClassId) (b : xB) (v : Option Value) (h' : xHp) : Array Value → State → Outcome → State → Prop := fun _ st o t => o = .returned (v.map (xcv b)) ∧ xWd D cI cR b h' t.heap ∧ xKk D cI cR t ∧ va_F (fun q => b.1 ≤ q) st t
def xQ (D : va_G) (cI cR : ClassId) (b : xB) (Q : Option Value → xHp → Prop) : Array Value → State → Outcome → State → Prop := fun a st o t => ∃ v h', Q v h' ∧ xQc D cI cR b v h' a st o t
def xrecv (g : xSig) (args : List Value) (h : xHp) : Prop := ∀ c, sgV g = some c → ∃ a fs As, args = .ref a :: As ∧ xat h a (xob c fs)
def xtym (t : Option FieldType) (v : Option Value) : Prop := match t with
  | none => v = none
  | some .long => ∃ x, v = some (.long x)
  | some _ => ∃ x, v = some (.int x)
/-- a method that makes cells: how many, and what holds of the heap behind it -/
def SpecA (g : xSig) (args : List Value) (h : xHp) (mc ms : Nat) (P : Option Value → xHp → Prop) : Prop :=
  xrecv g args h ∧ (∀ v h', P v h' → v = none ∧ h'.1 = h.1 + mc ∧ h'.2.1 = h.2.1 + ms) ∧ ∀ (l : Launch) (D : va_G) (cI cR : ClassId) (b : xB),
    Met l (sgN g) (xwd g) (xrm g mc ms) (va_Pc (args.map (xcv b)) (fun U => xWd D cI cR b h U.heap ∧ xKk D cI cR U ∧ xSc b U U.heap)) (xQ D cI cR b P) mc ms (fun q => b.1 ≤ q)
/-- a method that makes none: what holds of its answer and the heap behind it -/
def SpecR (g : xSig) (args : List Value) (h : xHp) (P : Option Value → xHp → Prop) : Prop :=
  xrecv g args h ∧ (∀ v h', P v h' → xtym (sgR g) v ∧ h'.1 = h.1 ∧ h'.2.1 = h.2.1) ∧ ∀ (l : Launch) (D : va_G) (cI cR : ClassId) (b : xB),
    Met l (sgN g) (xwd g) (xrm g 0 0) (va_Pc (args.map (xcv b)) (fun U => xWd D cI cR b h U.heap ∧ xKk D cI cR U ∧ xSc b U U.heap)) (xQ D cI cR b P) 0 0 (fun q => b.1 ≤ q)
/-- the same of a method with an answer that makes cells -/
def SpecN (g : xSig) (args : List Value) (h : xHp) (mc ms : Nat) (P : Option Value → xHp → Prop) : Prop :=
  xrecv g args h ∧ (∀ v h', P v h' → xtym (sgR g) v ∧ h'.1 = h.1 + mc ∧ h'.2.1 = h.2.1 + ms) ∧ ∀ (l : Launch) (D : va_G) (cI cR : ClassId) (b : xB),
    Met l (sgN g) (xwd g) (xrm g mc ms) (va_Pc (args.map (xcv b)) (fun U => xWd D cI cR b h U.heap ∧ xKk D cI cR U ∧ xSc b U U.heap)) (xQ D cI cR b P) mc ms (fun q => b.1 ≤ q)
theorem SpecR.toN {g : xSig} {args : List Value} {h : xHp} {P : Option Value → xHp → Prop} (k : SpecR g args h P) : SpecN g args h 0 0 P := k
def Spec (g : xSig) (args : List Value) (h : xHp) (v : Option Value) (h' : xHp) : Prop := SpecR g args h (fun v2 h2 => v2 = v ∧ h2 = h')
/-! a point of a method's walk -/
def xFix (p : Program) (s : State) (m : MethodId) (args : Array Value) (meth : Method) (c : Code) (g : xSig) : Prop :=
  p.tables.exec = Jvm.exec ∧ c.code = sgB g ∧ meth.sig.returnType = sgR g ∧ meth.locks = false ∧ c.maxLocals = sgL g ∧ s.vm.findClass (sgN g).cls = some m.cls ∧ meth.name = (sgN g).name ∧ ∀ w ∈ xwd g, w.before args s = true
def xcL (b : xB) (L : xLo) : xLo := L.map (fun q => (q.1, xcv b q.2))
def xCx (lim : Nat × Nat) (g : xSig) (D : va_G) (cI cR : ClassId) (b : xB) (N0 S0 : Nat) (s : State) (h : xHp) (H : Heap) (locs : List Loc) : Prop :=
  xKk D cI cR s ∧ xWd D cI cR b h H ∧ va_S (fun q => b.1 ≤ q) s.heap H locs ∧ (b.1 + N0 = s.heap.size ∧ xSc b s s.heap) ∧ N0 ≤ h.1 ∧ h.1 ≤ lim.1 ∧ S0 ≤ h.2.1 ∧ h.2.1 ≤ lim.2
def xAt (lim : Nat × Nat) (g : xSig) (Q : Option Value → xHp → Prop) (pc : Nat) (L : xLo) (st : List Value) (h : xHp) : Prop :=
  ∀ (p : Program) (l : Launch) (e : Env) (s : State) (m : MethodId) (args : Array Value) (below : List Frame) (meth : Method) (c : Code) (D : va_G) (cI cR : ClassId) (b : xB) (N0 S0 : Nat) (H : Heap) (locs : List Loc) (ls : Array Slot),
    xFix p s m args meth c g → xCx lim g D cI cR b N0 S0 s h H locs → lv_has ls (sgL g) (xcL b L) →
    W p l e (xrm g (lim.1 - N0) (lim.2 - S0)) s m args below meth c H locs (h.1 - N0) (h.2.1 - S0) (MQ below (xQ D cI cR b Q) args s (lim.1 - N0) (lim.2 - S0) (fun q => b.1 ≤ q)) (F0 m pc ls (st.map (xcv b)))
/-! locals -/
def xget : xLo → Nat → Option Value
  | [], _ => none
  | (j, v) :: L, i => bif Nat.beq j i then some v else xget L i
def xins : xLo → Nat → Value → xLo
  | [], i, v => [(i, v)]
  | (j, w) :: L, i, v => bif Nat.blt i j then (i, v) :: (j, w) :: L else (j, w) :: xins L i v
def xk1 (i : Nat) (q : Nat × Value) : Bool := !(q.1 == i) && !(q.1 + 1 == i && q.2.category == 2)
def xk2 (i : Nat) (q : Nat × Value) : Bool := !(q.1 == i) && (!(q.1 == i + 1) && !(q.1 + 1 == i && q.2.category == 2))
def xflt (p : Nat × Value → Bool) : xLo → xLo
  | [] => []
  | q :: L => bif p q then q :: xflt p L else xflt p L
def xput1 (L : xLo) (i : Nat) (v : Value) : xLo := xins (xflt (xk1 i) L) i v
def xput2 (L : xLo) (i : Nat) (v : Value) : xLo := xins (xflt (xk2 i) L) i v
def xmem : List Nat → Nat → Bool
  | [], _ => false
  | j :: l, i => bif Nat.beq j i then true else xmem l i
def xsel (L : xLo) (ks : List Nat) : xLo := xflt (fun q => xmem ks q.1) L
def xfind : xCd → Nat → Option xI
  | [], _ => none
  | (q, i) :: r, pc => bif Nat.beq q pc then some i else xfind r pc
def xcut : List (Nat × List Nat) → Nat → Option (List Nat)
  | [], _ => none
  | (q, i) :: r, pc => bif Nat.beq q pc then some i else xcut r pc
def xcats : List Value → Nat
  | [] => 0
  | v :: st => v.category + xcats st
theorem nb_eq {a b : Nat} (h : Nat.beq a b = true) : a = b := Nat.eq_of_beq_eq_true h
theorem nb_ne {a b : Nat} (h : Nat.beq a b = false) : ¬ a = b := Nat.ne_of_beq_eq_false h
theorem xget_mem : ∀ {L : xLo} {i : Nat} {v : Value}, xget L i = some v → (i, v) ∈ L
  | [], _, _, h => by cases h
  | (j, w) :: L, i, v, h => by
    unfold xget at h
    cases hb : Nat.beq j i with
    | true => rw [hb] at h; cases h; rw [nb_eq hb]; exact List.mem_cons_self
    | false => rw [hb] at h; exact List.mem_cons_of_mem _ (xget_mem h)
theorem xins_mem : ∀ {L : xLo} {i : Nat} {v : Value} {q : Nat × Value}, q ∈ xins L i v → q = (i, v) ∨ q ∈ L
  | [], _, _, _, h => by
    unfold xins at h
    exact Or.inl (List.mem_singleton.mp h)
  | (j, w) :: L, i, v, q, h => by
    unfold xins at h
    cases hb : Nat.blt i j with
    | true => rw [hb] at h; exact (List.mem_cons.mp h).elim Or.inl Or.inr
    | false =>
      rw [hb] at h
      rcases List.mem_cons.mp h with h | h
      · exact Or.inr (h ▸ List.mem_cons_self)
      · exact (xins_mem h).elim Or.inl (fun z => Or.inr (List.mem_cons_of_mem _ z))
theorem xflt_mem {p : Nat × Value → Bool} : ∀ {L : xLo} {q : Nat × Value}, q ∈ xflt p L → q ∈ L ∧ p q = true
  | [], _, h => by cases h
  | r :: L, q, h => by
    unfold xflt at h
    cases hb : p r with
    | true =>
      rw [hb] at h
      rcases List.mem_cons.mp h with h | h
      · subst h; exact ⟨List.mem_cons_self, hb⟩
      · exact ⟨List.mem_cons_of_mem _ (xflt_mem h).1, (xflt_mem h).2⟩
    | false => rw [hb] at h; exact ⟨List.mem_cons_of_mem _ (xflt_mem h).1, (xflt_mem h).2⟩
theorem xfind_mem : ∀ {cd : xCd} {pc : Nat} {i : xI}, xfind cd pc = some i → (pc, i) ∈ cd
  | [], _, _, h => by cases h
  | (j, w) :: L, i, v, h => by
    unfold xfind at h
    cases hb : Nat.beq j i with
    | true => rw [hb] at h; cases h; rw [nb_eq hb]; exact List.mem_cons_self
    | false => rw [hb] at h; exact List.mem_cons_of_mem _ (xfind_mem h)
theorem xcv_cat (b : xB) (v : Value) : (xcv b v).category = v.category := by cases v <;> rfl
theorem xcats_eq (b : xB) : ∀ st : List Value, ((st.map (xcv b)).map fun v => v.category).sum = xcats st
  | [] => rfl
  | v :: st => by
    simp only [List.map_cons, List.sum_cons, xcats, xcv_cat]
    rw [xcats_eq b st]
theorem xl_get {ls : Array Slot} {b : xB} {n i : Nat} {L : xLo} {v : Value} (h : lv_has ls n (xcL b L)) (hg : xget L i = some v) : ls[i]? = some (.val (xcv b v)) :=
  h.2.2 (i, xcv b v) (List.mem_map.mpr ⟨(i, v), xget_mem hg, rfl⟩)
theorem xl_sub {ls : Array Slot} {b : xB} {n : Nat} {L L' : xLo} (h : lv_has ls n (xcL b L)) (hs : ∀ q ∈ L', q ∈ L) : lv_has ls n (xcL b L') :=
  ⟨h.1, h.2.1, fun q hq => by
    obtain ⟨r, hr, rfl⟩ := List.mem_map.mp hq
    exact h.2.2 _ (List.mem_map.mpr ⟨r, hs r hr, rfl⟩)⟩
theorem xl_of {ls : Array Slot} {n : Nat} {l l' : xLo} (h : lv_has ls n l) (hs : ∀ q ∈ l', q ∈ l) : lv_has ls n l' := ⟨h.1, h.2.1, fun q hq => h.2.2 q (hs q hq)⟩
theorem xl_put1 {b : xB} {L : xLo} {i : Nat} {v : Value} : ∀ q ∈ xcL b (xput1 L i v), q ∈ (i, xcv b v) :: (xcL b L).filter (fun q => !(q.1 == i) && !(q.1 + 1 == i && q.2.category == 2)) := by
  intro q hq
  obtain ⟨r, hr, rfl⟩ := List.mem_map.mp hq
  rcases xins_mem hr with h | h
  · subst h; exact List.mem_cons_self
  · obtain ⟨h1, h2⟩ := xflt_mem h
    refine List.mem_cons_of_mem _ (List.mem_filter.mpr ⟨List.mem_map.mpr ⟨r, h1, rfl⟩, ?_⟩)
    simp only [xcv_cat]
    exact h2
theorem xl_put2 {b : xB} {L : xLo} {i : Nat} {v : Value} : ∀ q ∈ xcL b (xput2 L i v), q ∈ (i, xcv b v) :: (xcL b L).filter (fun q => !(q.1 == i) && (!(q.1 == i + 1) && !(q.1 + 1 == i && q.2.category == 2))) := by
  intro q hq
  obtain ⟨r, hr, rfl⟩ := List.mem_map.mp hq
  rcases xins_mem hr with h | h
  · subst h; exact List.mem_cons_self
  · obtain ⟨h1, h2⟩ := xflt_mem h
    refine List.mem_cons_of_mem _ (List.mem_filter.mpr ⟨List.mem_map.mpr ⟨r, h1, rfl⟩, ?_⟩)
    simp only [xcv_cat]
    exact h2
theorem xAt_sub {lim : Nat × Nat} {g : xSig} {Q : Option Value → xHp → Prop} {pc : Nat} {L L' : xLo} {st : List Value} {h : xHp} (k : xAt lim g Q pc L' st h) (hs : ∀ q ∈ L', q ∈ L) : xAt lim g Q pc L st h :=
  fun p l e s m args below meth c D cI cR b N0 S0 H locs ls X C hl => k p l e s m args below meth c D cI cR b N0 S0 H locs ls X C (xl_sub hl hs)
theorem xsel_mem {L : xLo} {ks : List Nat} : ∀ q ∈ xsel L ks, q ∈ L := fun _ h => (xflt_mem h).1
/-! stacks -/
def xp1 (st : List Value) (f : Value → List Value → Prop) : Prop := match st with
  | v :: r => f v r
  | _ => False
def xpi (st : List Value) (f : Int32 → List Value → Prop) : Prop := match st with
  | .int x :: r => f x r
  | _ => False
def xpl (st : List Value) (f : Int64 → List Value → Prop) : Prop := match st with
  | .long x :: r => f x r
  | _ => False
def xpr (st : List Value) (f : Nat → List Value → Prop) : Prop := match st with
  | .ref x :: r => f x r
  | _ => False
theorem xp1_el {st : List Value} {f : Value → List Value → Prop} (h : xp1 st f) : ∃ x r, st = x :: r ∧ f x r := by
  match st, h with
  | v :: r, h => exact ⟨v, r, rfl, h⟩
theorem xpi_el {st : List Value} {f : Int32 → List Value → Prop} (h : xpi st f) : ∃ x r, st = .int x :: r ∧ f x r := by
  match st, h with
  | .int v :: r, h => exact ⟨v, r, rfl, h⟩
theorem xpl_el {st : List Value} {f : Int64 → List Value → Prop} (h : xpl st f) : ∃ x r, st = .long x :: r ∧ f x r := by
  match st, h with
  | .long v :: r, h => exact ⟨v, r, rfl, h⟩
theorem xpr_el {st : List Value} {f : Nat → List Value → Prop} (h : xpr st f) : ∃ x r, st = .ref x :: r ∧ f x r := by
  match st, h with
  | .ref v :: r, h => exact ⟨v, r, rfl, h⟩
/-- the topmost n values, the deepest first -/
def xpop : Nat → List Value → List Value → Option (List Value × List Value)
  | 0, As, st => some (As, st)
  | n + 1, As, v :: st => xpop n (v :: As) st
  | _ + 1, _, [] => none
theorem xpop_el : ∀ {n : Nat} {As0 st As r : List Value}, xpop n As0 st = some (As, r) → ∃ B, As = B ++ As0 ∧ st = B.reverse ++ r ∧ B.length = n
  | 0, As0, st, As, r, h => by
    unfold xpop at h
    cases h
    exact ⟨[], rfl, rfl, rfl⟩
  | n + 1, As0, v :: st, As, r, h => by
    unfold xpop at h
    obtain ⟨B, h1, h2, h3⟩ := xpop_el h
    refine ⟨B ++ [v], by rw [h1]; simp, by rw [h2]; simp, by simp [h3]⟩
  | n + 1, As0, [], As, r, h => by
    unfold xpop at h
    cases h
def xix (i : Int32) (j n : Nat) : Prop := i = nI j ∧ j < n ∧ n < 2147483648
theorem xix_in {i : Int32} {j n : Nat} (h : xix i j n) : vp_in i n ∧ i.toNatClampNeg = j := by
  obtain ⟨rfl, h1, h2⟩ := h
  exact ⟨nI_in h1 h2, nI_clamp (Nat.lt_trans h1 h2)⟩
def xvk : FieldType → Value → Bool
  | .int, .int _ => true
  | .object _, .ref _ => true
  | .array _, .ref _ => true
  | _, _ => false
theorem xvk_ok {ty : FieldType} {v : Value} (b : xB) (h : xvk ty v = true) : narrow ty (xcv b v) = xcv b v ∧ fits ty (xcv b v) = true := by
  cases ty <;> cases v <;> first | exact ⟨rfl, rfl⟩ | cases h
def xsw : List (Int32 × Nat) → Int32 → (Nat → Prop) → Nat → Prop
  | [], _, k, d => k d
  | (v, t) :: r, x, k, d => (x = v → k t) ∧ (¬ x = v → xsw r x k d)
