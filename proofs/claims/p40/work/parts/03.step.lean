/-! ONE STEP: the condition of an instruction; 'k' is what must hold behind it -/
def xlv (lk : xL) (f : Int32 → Prop) : Prop := match lk with
  | .inr (.inr (.inl v)) => f v
  | _ => False
def xlw (lk : xL) (f : Int64 → Prop) : Prop := match lk with
  | .inr (.inr (.inr (.inl v))) => f v
  | _ => False
def xlf (lk : xL) (f : Nat → Nat → Prop) : Prop := match lk with
  | .inl (a, b) => f a b
  | _ => False
def xgi (L : xLo) (i : Nat) (f : Int32 → Prop) : Prop := match xget L i with
  | some (.int x) => f x
  | _ => False
def xgl (L : xLo) (i : Nat) (f : Int64 → Prop) : Prop := match xget L i with
  | some (.long x) => f x
  | _ => False
def xgr (L : xLo) (i : Nat) (f : Nat → Prop) : Prop := match xget L i with
  | some (.ref x) => f x
  | _ => False
def xgq (L : xLo) (i : Nat) (f : Value → Prop) : Prop := match xget L i with
  | some (.ref x) => f (.ref x)
  | some (.retAddr x) => f (.retAddr x)
  | _ => False
theorem xgq_el {b : xB} {L : xLo} {i : Nat} {f : Value → Prop} (h : xgq L i f) : ∃ v x, xget L i = some v ∧ xcv b v = .ref x ∧ f v := by
  unfold xgq at h
  split at h
  · exact ⟨_, _, by assumption, rfl, h⟩
  · exact ⟨_, _, by assumption, rfl, h⟩
  · exact h.elim
theorem xgi_el {L : xLo} {i : Nat} {f : Int32 → Prop} (h : xgi L i f) : ∃ x, xget L i = some (.int x) ∧ f x := by
  unfold xgi at h
  split at h
  · exact ⟨_, by assumption, h⟩
  · exact h.elim
theorem xgl_el {L : xLo} {i : Nat} {f : Int64 → Prop} (h : xgl L i f) : ∃ x, xget L i = some (.long x) ∧ f x := by
  unfold xgl at h
  split at h
  · exact ⟨_, by assumption, h⟩
  · exact h.elim
theorem xgr_el {L : xLo} {i : Nat} {f : Nat → Prop} (h : xgr L i f) : ∃ x, xget L i = some (.ref x) ∧ f x := by
  unfold xgr at h
  split at h
  · exact ⟨_, by assumption, h⟩
  · exact h.elim
/-- what a call asks, by the answer's type -/
def xcaR (g : xSig) (As : List Value) (h : xHp) (k : List Value → xHp → Prop) : Prop := match sgR g with
  | none => ∃ P : Option Value → xHp → Prop, SpecR g As h P ∧ ∀ h', P none h' → k [] h'
  | some .long => ∃ P : Option Value → xHp → Prop, SpecR g As h P ∧ ∀ (r : Int64) (h' : xHp), P (some (.long r)) h' → k [.long r] h'
  | some _ => ∃ P : Option Value → xHp → Prop, SpecR g As h P ∧ ∀ (r : Int32) (h' : xHp), P (some (.int r)) h' → k [.int r] h'
def xcal (lim : Nat × Nat) (g : xSig) (As : List Value) (h : xHp) (k : List Value → xHp → Prop) : Prop := xcaR g As h k ∨ ∃ mc ms, ∃ P : Option Value → xHp → Prop, SpecN g As h mc ms P ∧ h.1 + mc ≤ lim.1 ∧ h.2.1 + ms ≤ lim.2 ∧ ∀ v h', P v h' → k v.toList h'
/-- a branch -/
def xbr (c : Prop) (a b : Prop) : Prop := (c → a) ∧ (¬ c → b)
/-- an answer of a type that is narrower than int -/
def xrt (g : xSig) (v : Int32) (q : Prop) : Prop := match sgR g with
  | some .int => q
  | some .boolean => (v = nI 0 ∨ v = nI 1) ∧ q
  | _ => False
def xcpw : Nat := nativeFrameWords "java/lang/System" "arraycopy" 5 + 11
abbrev xK : Type := Nat → xLo → List Value → xHp → Prop
def xnil (st : List Value) (p : Prop) : Prop := match st with
  | [] => p
  | _ => False
def xtsw (k : xK) (L : xLo) (st : List Value) (h : xHp) (lk : xL) : Prop := match lk with
  | .inr (.inr (.inr (.inr (d, ps)))) => xpi st fun x r => xsw ps x (fun t => k t L r h) d
  | _ => False
def xist (lim : Nat × Nat) (k : xK) (pc len : Nat) (L : xLo) (st : List Value) (h : xHp) (lk : xL) : Prop := match lk with
  | .inr (.inl c) => match xpop (sgP c) [] st with
    | some (As, r) => bif Nat.ble (xcats r) 8 then xcal lim c As h (fun v h' => k (pc + len) L (v ++ r) h') else False
    | none => False
  | .inl _ => xpi st fun n r => xpi r fun dp r => xpr r fun a r => xpi r fun sp r => xpr r fun a0 r => bif Nat.ble (xcats r) 8 then ∃ n0 f n1 f1 jn jd js, xat h a0 (xia n0 f) ∧ xat h a (xia n1 f1) ∧ n = nI jn ∧ dp = nI jd ∧ sp = nI js ∧ js + jn ≤ n0 ∧ jd + jn ≤ n1 ∧ n0 < 100000 ∧ n1 < 100000 ∧ k (pc + len) L r (xset h a (xia n1 (va_cpy f f1 js jd jn))) else False
  | .inr (.inr (.inr (.inr (0, _)))) => xpi st fun y r => xpi r fun x r => bif Nat.ble (xcats r) 8 then k (pc + len) L (.int (if x < y then y else x) :: r) h else False
  | .inr (.inr (.inr (.inr (1, _)))) => xpi st fun y r => xpi r fun x r => bif Nat.ble (xcats r) 8 then k (pc + len) L (.int (if y < x then y else x) :: r) h else False
  | .inr (.inr (.inr (.inr (2, _)))) => xpi st fun x r => bif Nat.ble (xcats r) 8 then k (pc + len) L (.int (if 0 ≤ x then x else 0 - x) :: r) h else False
  | _ => False
def xivt (lim : Nat × Nat) (k : xK) (pc len : Nat) (L : xLo) (st : List Value) (h : xHp) (lk : xL) : Prop := match lk with
  | .inr (.inl c) => match xpop (sgP c) [] st with
    | some (As, r) => xpr r fun a r => bif Nat.ble (xcats r) 8 then xcal lim c (.ref a :: As) h (fun v h' => k (pc + len) L (v ++ r) h') else False
    | none => False
  | _ => False
def xisp (lim : Nat × Nat) (k : xK) (pc len : Nat) (L : xLo) (st : List Value) (h : xHp) (lk : xL) : Prop := match lk with
  | .inr (.inl c) => match xpop (sgP c) [] st with
    | some (As, r) => xpr r fun a r => bif Nat.ble (xcats r) 8 then ∃ mc ms, ∃ P : Option Value → xHp → Prop, SpecA c (.ref a :: As) h mc ms P ∧ h.1 + mc ≤ lim.1 ∧ h.2.1 + ms ≤ lim.2 ∧ ∀ h', P none h' → k (pc + len) L r h' else False
    | none => False
  | .inl _ => xpr st fun a r => bif Nat.ble (xcats r) 8 then k (pc + len) L r h else False
  | _ => False

def xstep (lim : Nat × Nat) (g : xSig) (k : xK) (Q : Option Value → xHp → Prop) (pc : Nat) (L : xLo) (st : List Value) (h : xHp) (i : Instr) (len : Nat) (lk : xL) : Prop := match i with
  | .iconst _ => xlv lk fun v => k (pc + len) L (.int v :: st) h
  | .bipush _ => xlv lk fun v => k (pc + len) L (.int v :: st) h
  | .sipush _ => xlv lk fun v => k (pc + len) L (.int v :: st) h
  | .ldc _ => xlv lk fun v => k (pc + len) L (.int v :: st) h
  | .ldc_w _ => xlv lk fun v => k (pc + len) L (.int v :: st) h
  | .ldc2_w _ => xlw lk fun v => k (pc + len) L (.long v :: st) h
  | .iload i => xgi L i fun x => k (pc + len) L (.int x :: st) h
  | .iload_n n => xgi L n.val fun x => k (pc + len) L (.int x :: st) h
  | .lload i => xgl L i fun x => k (pc + len) L (.long x :: st) h
  | .lload_n n => xgl L n.val fun x => k (pc + len) L (.long x :: st) h
  | .aload i => xgq L i fun v => k (pc + len) L (v :: st) h
  | .aload_n n => xgq L n.val fun v => k (pc + len) L (v :: st) h
  | .istore i => xpi st fun x r => k (pc + len) (xput1 L i (.int x)) r h
  | .istore_n n => xpi st fun x r => k (pc + len) (xput1 L n.val (.int x)) r h
  | .lstore i => xpl st fun x r => k (pc + len) (xput2 L i (.long x)) r h
  | .lstore_n n => xpl st fun x r => k (pc + len) (xput2 L n.val (.long x)) r h
  | .astore i => xpr st fun x r => k (pc + len) (xput1 L i (.ref x)) r h
  | .astore_n n => xpr st fun x r => k (pc + len) (xput1 L n.val (.ref x)) r h
  | .iinc i _ => xlv lk fun v => xgi L i fun x => k (pc + len) (xput1 L i (.int (x + v))) st h
  | .iadd => xpi st fun y r => xpi r fun x r => k (pc + len) L (.int (x + y) :: r) h
  | .isub => xpi st fun y r => xpi r fun x r => k (pc + len) L (.int (x - y) :: r) h
  | .imul => xpi st fun y r => xpi r fun x r => k (pc + len) L (.int (x * y) :: r) h
  | .iand => xpi st fun y r => xpi r fun x r => k (pc + len) L (.int (x &&& y) :: r) h
  | .ior => xpi st fun y r => xpi r fun x r => k (pc + len) L (.int (x ||| y) :: r) h
  | .ixor => xpi st fun y r => xpi r fun x r => k (pc + len) L (.int (x ^^^ y) :: r) h
  | .ishl => xpi st fun y r => xpi r fun x r => k (pc + len) L (.int (x <<< (y &&& 31)) :: r) h
  | .ishr => xpi st fun y r => xpi r fun x r => k (pc + len) L (.int (x >>> (y &&& 31)) :: r) h
  | .iushr => xpi st fun y r => xpi r fun x r => k (pc + len) L (.int ((x.toUInt32 >>> (y.toUInt32 &&& Int32.toUInt32 31)).toInt32) :: r) h
  | .idiv => xpi st fun y r => xpi r fun x r => ¬ y = 0 ∧ k (pc + len) L (.int (x / y) :: r) h
  | .irem => xpi st fun y r => xpi r fun x r => ¬ y = 0 ∧ k (pc + len) L (.int (x - x / y * y) :: r) h
  | .ineg => xpi st fun x r => k (pc + len) L (.int (-x) :: r) h
  | .ladd => xpl st fun y r => xpl r fun x r => k (pc + len) L (.long (x + y) :: r) h
  | .lmul => xpl st fun y r => xpl r fun x r => k (pc + len) L (.long (x * y) :: r) h
  | .i2l => xpi st fun x r => k (pc + len) L (.long x.toInt64 :: r) h
  | .dup => xp1 st fun v r => bif Nat.beq v.category 1 then k (pc + len) L (v :: v :: r) h else False
  | .dup2 => xp1 st fun v r => xp1 r fun u r => bif Nat.beq v.category 1 && Nat.beq u.category 1 then k (pc + len) L (v :: u :: v :: u :: r) h else False
  | .pop => xp1 st fun v r => bif Nat.beq v.category 1 then k (pc + len) L r h else False
  | .ifCond .eq _ => xlf lk fun t _ => xpi st fun x r => xbr (x = nI 0) (k t L r h) (k (pc + len) L r h)
  | .ifCond .ne _ => xlf lk fun t _ => xpi st fun x r => xbr (x = nI 0) (k (pc + len) L r h) (k t L r h)
  | .ifCond .lt _ => xlf lk fun t _ => xpi st fun x r => xbr (x < nI 0) (k t L r h) (k (pc + len) L r h)
  | .ifCond .ge _ => xlf lk fun t _ => xpi st fun x r => xbr (nI 0 ≤ x) (k t L r h) (k (pc + len) L r h)
  | .ifCond .gt _ => xlf lk fun t _ => xpi st fun x r => xbr (nI 0 < x) (k t L r h) (k (pc + len) L r h)
  | .ifCond .le _ => xlf lk fun t _ => xpi st fun x r => xbr (x ≤ nI 0) (k t L r h) (k (pc + len) L r h)
  | .if_icmp .eq _ => xlf lk fun t _ => xpi st fun y r => xpi r fun x r => xbr (x = y) (k t L r h) (k (pc + len) L r h)
  | .if_icmp .ne _ => xlf lk fun t _ => xpi st fun y r => xpi r fun x r => xbr (x = y) (k (pc + len) L r h) (k t L r h)
  | .if_icmp .lt _ => xlf lk fun t _ => xpi st fun y r => xpi r fun x r => xbr (x < y) (k t L r h) (k (pc + len) L r h)
  | .if_icmp .ge _ => xlf lk fun t _ => xpi st fun y r => xpi r fun x r => xbr (y ≤ x) (k t L r h) (k (pc + len) L r h)
  | .if_icmp .gt _ => xlf lk fun t _ => xpi st fun y r => xpi r fun x r => xbr (y < x) (k t L r h) (k (pc + len) L r h)
  | .if_icmp .le _ => xlf lk fun t _ => xpi st fun y r => xpi r fun x r => xbr (x ≤ y) (k t L r h) (k (pc + len) L r h)
  | .goto _ => xlf lk fun t _ => k t L st h
  | .tableswitch _ _ _ _ => xtsw k L st h lk
  | .getfield _ => xlf lk fun ci n => xpr st fun a r => ∃ fs v, xat h a (xob ci fs) ∧ fs[n]? = some v ∧ k (pc + len) L (v :: r) h
  | .putfield _ => xlf lk fun ci n => xp1 st fun v r => xpr r fun a r => ∃ fs, xat h a (xob ci fs) ∧ n < fs.length ∧ bif xvk (xfty ci n) v then k (pc + len) L r (xset h a (xob ci (fs.set n v))) else False
  | .iaload => xpi st fun i r => xpr r fun a r => ∃ n f j, xat h a (xia n f) ∧ xix i j n ∧ k (pc + len) L (.int (f j) :: r) h
  | .iastore => xpi st fun x r => xpi r fun i r => xpr r fun a r => ∃ n f j, xat h a (xia n f) ∧ xix i j n ∧ k (pc + len) L r (xset h a (xia n (upd f j x)))
  | .aaload => xpi st fun i r => xpr r fun a r => ∃ n f j q, xat h a (xra n f) ∧ xix i j n ∧ f j = some q ∧ k (pc + len) L (.ref q :: r) h
  | .aastore => xpr st fun v r => xpi r fun i r => xpr r fun a r => ∃ n f j fs, xat h a (xra n f) ∧ xix i j n ∧ xat h v (xob xrc fs) ∧ k (pc + len) L r (xset h a (xra n (va_up f j (some v))))
  | .arraylength => xpr st fun a r => ∃ n f, xat h a (xia n f) ∧ k (pc + len) L (.int (nI n) :: r) h
  | .newarray _ => xpi st fun i r => ∃ j, i = nI j ∧ j < 100000 ∧ h.1 + 1 ≤ lim.1 ∧ h.2.1 + j ≤ lim.2 ∧ k (pc + len) L (.ref h.1 :: r) (xnew h j (xia j (fun _ => 0)))
  | .anewarray _ => xpi st fun i r => ∃ j, i = nI j ∧ j < 100000 ∧ h.1 + 1 ≤ lim.1 ∧ h.2.1 + j ≤ lim.2 ∧ k (pc + len) L (.ref h.1 :: r) (xnew h j (xra j (fun _ => none)))
  | .new _ => xlf lk fun ci n => h.1 + 1 ≤ lim.1 ∧ h.2.1 + n ≤ lim.2 ∧ k (pc + len) L (.ref h.1 :: st) (xnew h n (xob ci (xdef ci)))
  | .invokestatic _ => xist lim k pc len L st h lk
  | .invokevirtual _ => xivt lim k pc len L st h lk
  | .invokespecial _ => xisp lim k pc len L st h lk
  | .ireturn => xpi st fun x r => xnil r (xrt g x (Q (some (.int x)) h))
  | .lreturn => xpl st fun x r => xnil r (Q (some (.long x)) h)
  | .return_ => xnil st (Q none h)
  | _ => False
def xgo (r : Option xI) (f : Instr → Nat → xL → Prop) : Prop := match r with
  | none => False
  | some i => f i.1 i.2.1 i.2.2
def xnext (cut : List (Nat × List Nat)) (K w : xK) : xK := fun pc L st h => match xcut cut pc with
  | none => w pc L st h
  | some ks => K pc (xsel L ks) st h
theorem xgo_el {r : Option xI} {f : Instr → Nat → xL → Prop} (h : xgo r f) : ∃ i len lk, r = some (i, len, lk) ∧ f i len lk := by
  match r, h with
  | some (i, len, lk), h => exact ⟨i, len, lk, rfl, h⟩
theorem xnext_el {cut : List (Nat × List Nat)} {K w : xK} {pc : Nat} {L : xLo} {st : List Value} {h : xHp} (hh : xnext cut K w pc L st h) : w pc L st h ∨ ∃ ks, K pc (xsel L ks) st h := by
  unfold xnext at hh
  split at hh
  · exact Or.inl hh
  · exact Or.inr ⟨_, hh⟩
def wp (lim : Nat × Nat) (g : xSig) (cd : xCd) (cut : List (Nat × List Nat)) (K : xK) (Q : Option Value → xHp → Prop) : Nat → Nat → xLo → List Value → xHp → Prop
  | 0, _, _, _, _ => False
  | n + 1, pc, L, st, h => xgo (xfind cd pc) (xstep lim g (xnext cut K (wp lim g cd cut K Q n)) Q pc L st h)
/-! what is checked of the code, once -/
def xckv (lk : xL) (f : Int32 → Bool) : Bool := match lk with
  | .inr (.inr (.inl v)) => f v
  | _ => true
def xckt (lk : xL) (f : Nat → Bool) : Bool := match lk with
  | .inl (t, _) => f t
  | _ => true
def xswk (pc : Nat) (offs : List Int) : Int → List (Int32 × Nat) → Bool
  | _, [] => match offs with
    | [] => true
    | _ => false
  | lo, (v, t) :: r => match offs with
    | [] => false
    | o :: os => decide (v.toInt = lo) && decide ((pc : Int) + o = (t : Int)) && xswk pc os (lo + 1) r
def xck (g : xSig) (e : Nat × xI) : Bool := match e.2.1 with
  | .iconst n => xckv e.2.2.2 (fun v => decide (Int32.ofInt n = v)) && Nat.beq e.2.2.1 1
  | .bipush n => xckv e.2.2.2 (fun v => decide ((Int8.ofInt n).toInt32 = v)) && Nat.beq e.2.2.1 2
  | .sipush n => xckv e.2.2.2 (fun v => decide ((Int16.ofInt n).toInt32 = v)) && Nat.beq e.2.2.1 3
  | .ldc _ => Nat.beq e.2.2.1 2
  | .ldc_w _ | .ldc2_w _ => Nat.beq e.2.2.1 3
  | .iload _ | .lload _ | .aload _ => Nat.beq e.2.2.1 2
  | .istore i | .astore i => Nat.blt i (sgL g) && Nat.beq e.2.2.1 2
  | .lstore i => Nat.blt (i + 1) (sgL g) && Nat.beq e.2.2.1 2
  | .istore_n n | .astore_n n => Nat.blt n.val (sgL g) && Nat.beq e.2.2.1 1
  | .lstore_n n => Nat.blt (n.val + 1) (sgL g) && Nat.beq e.2.2.1 1
  | .iinc i n => xckv e.2.2.2 (fun v => decide (Int32.ofInt n = v)) && Nat.blt i (sgL g) && Nat.beq e.2.2.1 3
  | .ifCond _ off => xckt e.2.2.2 (fun t => decide ((e.1 : Int) + off = (t : Int))) && Nat.beq e.2.2.1 3
  | .if_icmp _ off => xckt e.2.2.2 (fun t => decide ((e.1 : Int) + off = (t : Int))) && Nat.beq e.2.2.1 3
  | .goto off => xckt e.2.2.2 (fun t => decide ((e.1 : Int) + off = (t : Int))) && Nat.beq e.2.2.1 3
  | .tableswitch d lo hi offs => match e.2.2.2 with
    | .inr (.inr (.inr (.inr (t, ps)))) => decide ((e.1 : Int) + d = (t : Int)) && xswk e.1 offs.toList lo ps && decide (hi = lo + ps.length - 1)
    | _ => true
  | .lreturn => decide (sgR g = some .long) && Nat.beq e.2.2.1 1
  | .return_ => decide (sgR g = none) && Nat.beq e.2.2.1 1
  | .getfield _ | .putfield _ | .new _ | .anewarray _ => Nat.beq e.2.2.1 3
  | .newarray _ => Nat.beq e.2.2.1 2
  | .invokestatic _ => (match e.2.2.2 with
    | .inr (.inl c) => Nat.ble (sgF c + 1) (sgF g) && Nat.ble (8 + (sgL c + 11) + sgO c) (sgO g)
    | _ => Nat.ble 1 (sgF g) && Nat.ble (8 + xcpw) (sgO g)) && Nat.beq e.2.2.1 3
  | .invokevirtual _ => (match e.2.2.2 with
    | .inr (.inl c) => Nat.ble (sgF c + 1) (sgF g) && Nat.ble (8 + (sgL c + 11) + sgO c) (sgO g)
    | _ => true) && Nat.beq e.2.2.1 3
  | .invokespecial _ => (match e.2.2.2 with
    | .inr (.inl c) => Nat.ble (sgF c + 1) (sgF g) && Nat.ble (8 + (sgL c + 11) + sgO c) (sgO g)
    | _ => Nat.ble 1 (sgF g) && Nat.ble 20 (sgO g)) && Nat.beq e.2.2.1 3
  | _ => Nat.beq e.2.2.1 1
/-! what the tables must say of an instruction that links -/
def xfl (own : String) (idx ci k : Nat) : Prop := ∃ r, xcl[ci]? = some r ∧ k < r.2.2 ∧ Cond.fieldLink own idx (r.2.1 k).1 (r.2.1 k).2.1 (r.2.1 k).2.2.1 ∈ lw_g
def xmc (c : xSig) : Prop := Cond.initialized (sgN c).cls ∈ lw_g ∧ Cond.code (sgN c) (sgB c) (sgL c) (sgR c) ∈ lw_g ∧ (sgN c).cls ≠ "java/lang/invoke/MethodHandle" ∧ (sgN c).cls ≠ "java/lang/invoke/VarHandle" ∧ (parseMethodDescriptor (sgN c).desc).map (fun d => d.parameters.length) = some (sgP c)
def xms (c : xSig) : Prop := xmc c ∧ Cond.static (sgN c) ∈ lw_g
def xmv (c : xSig) : Prop := xmc c ∧ Cond.instanceMethod (sgN c) ∈ lw_g ∧ Cond.selects (sgN c).cls (sgN c) (sgN c) ∈ lw_g ∧ ∃ ci r, sgV c = some ci ∧ xcl[ci]? = some r ∧ r.1 = (sgN c).cls
def xmi (c : xSig) : Prop := xmc c ∧ Cond.instanceMethod (sgN c) ∈ lw_g ∧ (sgN c).name = "<init>" ∧ sgR c = none
def xfp (g : xSig) (ci k : Nat) : Prop := ∀ r, xcl[ci]? = some r → (r.2.1 k).2.2.2 = true → (sgN g).name = "<init>" ∧ r.1 = (sgN g).cls
def xlk (g : xSig) (e : Nat × xI) : Prop := match e.2.1, e.2.2.2 with
  | .getfield idx, .inl (ci, k) => xfl (sgN g).cls idx ci k
  | .putfield idx, .inl (ci, k) => xfl (sgN g).cls idx ci k ∧ xfp g ci k
  | .new idx, .inl (ci, n) => ∃ r, xcl[ci]? = some r ∧ r.2.2 = n ∧ Cond.classLink (sgN g).cls idx r.1 ∈ lw_g ∧ Cond.instantiable r.1 r.2.2 ∈ lw_g ∧ Cond.initialized r.1 ∈ lw_g
  | .invokestatic idx, .inr (.inl c) => Cond.methodLink (sgN g).cls idx (sgN c) ∈ lw_g ∧ xms c
  | .invokestatic idx, .inl _ => Cond.methodLink (sgN g).cls idx arraycopyName ∈ lw_g ∧ Cond.native arraycopyName ∈ lw_g ∧ Cond.static arraycopyName ∈ lw_g ∧ Cond.initialized "java/lang/System" ∈ lw_g
  | .invokestatic idx, .inr (.inr (.inr (.inr (0, _)))) => Cond.methodLink (sgN g).cls idx Lib.Math.max.name ∈ lw_g ∧ Cond.static Lib.Math.max.name ∈ lw_g ∧ Cond.initialized "java/lang/Math" ∈ lw_g ∧ Cond.code Lib.Math.max.name Lib.Math.max.code 2 (some .int) ∈ lw_g
  | .invokestatic idx, .inr (.inr (.inr (.inr (1, _)))) => Cond.methodLink (sgN g).cls idx Lib.Math.min.name ∈ lw_g ∧ Cond.static Lib.Math.min.name ∈ lw_g ∧ Cond.initialized "java/lang/Math" ∈ lw_g ∧ Cond.code Lib.Math.min.name Lib.Math.min.code 2 (some .int) ∈ lw_g
  | .invokestatic idx, .inr (.inr (.inr (.inr (2, _)))) => Cond.methodLink (sgN g).cls idx Lib.Math.abs.name ∈ lw_g ∧ Cond.static Lib.Math.abs.name ∈ lw_g ∧ Cond.initialized "java/lang/Math" ∈ lw_g ∧ Cond.code Lib.Math.abs.name Lib.Math.abs.code 1 (some .int) ∈ lw_g
  | .invokevirtual idx, .inr (.inl c) => Cond.methodLink (sgN g).cls idx (sgN c) ∈ lw_g ∧ xmv c
  | .invokespecial idx, .inr (.inl c) => Cond.methodLink (sgN g).cls idx (sgN c) ∈ lw_g ∧ xmi c
  | .invokespecial idx, .inl _ => Cond.methodLink (sgN g).cls idx Lib.objectInit ∈ lw_g ∧ Cond.instanceMethod Lib.objectInit ∈ lw_g ∧ Cond.code Lib.objectInit ⟨#[0xb1]⟩ 1 none ∈ lw_g
  | .newarray .int, _ => Cond.arrayClass .int ∈ lw_g
  | .newarray _, _ => False
  | .anewarray idx, _ => Cond.classLink (sgN g).cls idx xrn ∈ lw_g
  | .ldc idx, .inr (.inr (.inl v)) => Cond.constant (sgN g).cls idx v ∈ lw_g
  | .ldc_w idx, .inr (.inr (.inl v)) => Cond.constant (sgN g).cls idx v ∈ lw_g
  | .ldc2_w idx, .inr (.inr (.inr (.inl v))) => Cond.constantLong (sgN g).cls idx v ∈ lw_g
  | _, _ => True
def xOK (g : xSig) (cd : xCd) : Prop := (∀ e ∈ cd, decode (sgB g) e.1 = .ok (e.2.1, e.2.2.1)) ∧ cd.all (xck g) = true ∧ ∀ e ∈ cd, xlk g e
