/-! THE CLAIM OUT OF ONE WALK OF THE LAW'S BODY. Your part is whole_start (and what it stands on); all else here is the same for every law, but numbers. -/
def R_law : String := "TurningVerseLaw"
def lw_P (b : Addr) (xs : List Int32) (args : Array Value) (s : State) : Prop := args = #[.ref b] ∧ s.IntsAt b xs ∧ xs.length ≤ 2048 ∧ (Jvm.Cond.and given_1 narrow_1).before args s = true
def lw_Q (_ : Array Value) (s : State) (o : Outcome) (t : State) : Prop := o = .returned (some (.int 1)) ∧ Framed s o t [] 600000 7302250
def lw_Z (below : List Frame) (a : Array Value) (s : State) : State → Prop := fun t => ∃ o, t.status = .running ∧ Ended t below o ∧ lw_Q a s o t
/-- the law's own end, with 1 on the stack, nothing written that was there before, its room as the claim has it -/
theorem lw_ret {p : Program} {l : Launch} {e : Env} {s : State} {m : MethodId} {below : List Frame} {meth : Method} {c : Code} {b : Nat} (hx : p.tables.exec = Jvm.exec) (hb : c.code = code) (hr : meth.sig.returnType = ret) (hlocks : meth.locks = false) {pc : Nat} {H : Heap} {ls : Array Slot} (hdg : decode code pc = .ok (.ireturn, 1)) : W p l e room_1 s m #[Value.ref b] below meth c H [] 600000 7302250 (lw_Z below #[Value.ref b] s) (F0 m pc ls [.int 1]) := by
  intro T hT X
  obtain ⟨fs, hret, hrun, hended, hW, hframe⟩ := X.leave (v := some (.int 1)) (hlocks := hlocks) (fun h => by rw [hr] at h; cases h)
  have hmeth' : T.vm.method? m = some meth := X.method'
  refine ⟨T.setFrames fs, ?_, .returned (some (.int 1)), hrun, hended, rfl, ⟨_, rfl⟩, hW, hframe⟩
  jvm_step X.here [X.here.top, hx, hb, hdg, hmeth', hr, ret, narrow_b1]
  (try refine ⟨rfl, ?_⟩); (try refine ⟨rfl, ?_⟩)
  first | (intro acts; rw [hret _ acts rfl rfl rfl]) | rw [hret _ _ rfl rfl rfl]
  exact Steps.refl _
/-- what holds at the law's entry: the machine, the code, the tables' words (any of lw_tbl by 'hts w (by decide +kernel)'), the script of L ints xs at the cell b, what the Statement gives of the start (any of its parts by flat_of_before) -/
def lw_At (p : Program) (s : State) (m : MethodId) (meth : Method) (c : Code) (b L : Nat) (xs : Nat → Int32) : Prop :=
  p.tables.exec = Jvm.exec ∧ c.code = code ∧ meth.sig.returnType = ret ∧ c.maxLocals = 4 ∧ s.vm.findClass R_law = some m.cls ∧ (∀ w ∈ lw_tbl, w.before #[Value.ref b] s = true) ∧ va_X b L xs s s.heap ∧ b < s.heap.size ∧ meth.locks = false ∧ (Jvm.Cond.and given_1 narrow_1).before #[Value.ref b] s = true

/-! THE LAW: calls of both sides out of its body -/
theorem isM.fr {h h' : xHp} {B lo hi : Nat} {ω : Wv} (w : isM h B ω) (f : frm h h' lo hi) (hd : B + 14 ≤ lo ∨ hi ≤ B) : isM h' B ω := by
  obtain ⟨F, tx, ⟨⟨l, m, s, w0⟩, w1, w2, ⟨w3, w4⟩, w5⟩⟩ := w
  exact ⟨F, tx, ⟨l, m, s, xat_fr w0 f (by omega)⟩, xat_fr w1 f (by omega), w2, ⟨xat_fr w3 f (by omega), w4⟩, w5.fr f (by omega)⟩
theorem isT.fr {h h' : xHp} {A lo hi : Nat} {ω : Wv} (w : isT h A ω) (f : frm h h' lo hi) (hd : A + 84 ≤ lo ∨ hi ≤ A) : isT h' A ω := by
  obtain ⟨w0, w1, w2, w3, ⟨⟨n, pos, w4⟩, w5⟩, ⟨q, w6⟩, w7, w8, ⟨g, w9⟩⟩ := w
  exact ⟨xat_fr w0 f (by omega), w1.fr f (by omega), w2.fr f (by omega), w3.fr f (by omega), ⟨⟨n, pos, xat_fr w4 f (by omega)⟩, w5.fr f (by omega)⟩, ⟨q, xat_fr w6 f (by omega)⟩, w7.fr f (by omega), w8.fr f (by omega), ⟨g, xat_fr w9 f (by omega)⟩⟩
theorem isT.sb {h h' : xHp} {A lo hi : Nat} {ω : Wv} (w : isT h A ω) (f : sub h h' lo hi) (h1 : lo ≤ A) (h2 : A + 84 ≤ hi) : isT h' A ω := by
  obtain ⟨w0, w1, w2, w3, ⟨⟨n, pos, w4⟩, w5⟩, ⟨q, w6⟩, w7, w8, ⟨g, w9⟩⟩ := w
  exact ⟨xat_sb w0 f (by omega) (by omega), w1.sb f (by omega) (by omega), w2.sb f (by omega) (by omega), w3.sb f (by omega) (by omega), ⟨⟨n, pos, xat_sb w4 f (by omega) (by omega)⟩, w5.sb f (by omega) (by omega)⟩, ⟨q, xat_sb w6 f (by omega) (by omega)⟩, w7.sb f (by omega) (by omega), w8.sb f (by omega) (by omega), ⟨g, xat_sb w9 f (by omega) (by omega)⟩⟩
def LC (s : State) (D : va_G) (cI cR : ClassId) (h : xHp) (H : Heap) (locs : List Loc) : Prop := xCx (600000, 7302250) g_TV_init D cI cR s.heap.size 0 0 s h H locs
def LX (p : Program) (s : State) (m : MethodId) (args : Array Value) (c : Code) : Prop := p.tables.exec = Jvm.exec ∧ c.code = code ∧ c.maxLocals = 4 ∧ s.vm.findClass R_law = some m.cls ∧ ∀ w ∈ lw_g, w.before args s = true
def LI (s : State) (D : va_G) (cI cR : ClassId) (ω : Wv) (H : Heap) (locs : List Loc) : Prop := ∃ h, LC s D cI cR h H locs ∧ isT h 0 ω ∧ isM h 84 ω
theorem lgood {ws : List Cond} (hw : ∀ w ∈ ws, w ∈ lw_g) : GoodIn lw_g ws := fun w h => ⟨hw w h, good_of_word (List.all_eq_true.mp lw_all w (hw w h))⟩
theorem lw_virt {p : Program} {l : Launch} {e : Env} {s : State} {m : MethodId} {args : Array Value} {below : List Frame} {meth : Method} {c : Code} {H : Heap} {locs : List Loc} {cells slots pc n ra : Nat} {Qw : State → Prop} {D : va_G} {cI cR : ClassId} {h : xHp} {ls : Array Slot} {c0 : xSig} {As rest : List Value} {P : Option Value → xHp → Prop}
    (X : LX p s m args c) (C : LC s D cI cR h H locs) (hls : ls.size = 4) (hlink : Cond.methodLink R_law n (sgN c0) ∈ lw_g) (hq : xmv c0) (hfr : sgF c0 + 1 ≤ 9) (hlo : 8 + (sgL c0 + 11) + sgO c0 ≤ 318) (hlen : As.length = sgP c0) (hAs : As.map (xcv s.heap.size) = As) (hsp : SpecR c0 (.ref ra :: As) h P) (h8 : (rest.map fun v => v.category).sum ≤ 8) (hd : decode code pc = .ok (.invokevirtual n, 3)) (hcs : cells ≤ 600000 ∧ slots ≤ 7302250)
    (kk : ∀ (v : Option Value) (h' : xHp) (H1 : Heap) (locs1 : List Loc), P v h' → LC s D cI cR h' H1 locs1 → W p l e room_1 s m args below meth c H1 locs1 cells slots Qw (F0 m (pc + 3) ls ((v.map (xcv s.heap.size)).toList ++ rest))) : W p l e room_1 s m args below meth c H locs cells slots Qw (F0 m pc ls (As.reverse ++ .ref (s.heap.size + ra) :: rest)) := by
  obtain ⟨hx, hb, hml, hown, hts⟩ := X
  obtain ⟨hmc, hinst, hsel, ci, rc, hci, hrc, hcn⟩ := hq
  obtain ⟨hrv, hPt, hM⟩ := hsp
  obtain ⟨ra', fs, As', hra, hat⟩ := hrv ci hci
  cases hra
  have hM := hM l D cI cR s.heap.size
  have hrec := va_recv (q0 := 0) C.1.1 (xWd_one C.2.1 hat) hrc rfl
  rw [hcn] at hrec
  refine x_after (va_runV (C := (sgN c0).cls) (b := s.heap.size + ra) (As := As.map (xcv s.heap.size)) (rest := rest) ⟨hx, hb, hml, hown, hts⟩ hM (cwV (sgP c0) hts (lgood (fun w hw => ?_)) rfl rfl rfl ⟨rfl, hmc.2.2.1, hmc.2.2.2.1, hmc.2.2.2.2⟩ ⟨hfr, hlo⟩) ⟨x_blind, hrec, fun U hU hW => ⟨rfl, by rw [hU]; exact C.2.1, xKk.moved hW.alike C.1⟩⟩ rfl (by rw [List.length_map]; exact hlen) hls (by rw [hAs]) (by show 2 * 0 + _ ≤ 8; omega) hd hcs) C.2.2.1 fun v h' H1 locs1 hP hW1 hS1 => ?_
  · rcases List.mem_append.mp hw with hw | hw
    · rcases List.mem_cons.mp hw with hw | hw
      · rw [hw]; exact hlink
      · rcases List.mem_cons.mp hw with hw | hw
        · rw [hw]; exact hinst
        · rcases List.mem_cons.mp hw with hw | hw
          · rw [hw]; exact hsel
          · rw [List.mem_singleton.mp hw]; exact hmc.1
    · exact xwd_in hmc w hw
  · obtain ⟨-, g3, g4⟩ := hPt v h' hP
    exact kk v h' H1 locs1 hP ⟨C.1, hW1, hS1, C.2.2.2.1, by rw [g3, g4]; exact C.2.2.2.2⟩
theorem lw_spec {p : Program} {l : Launch} {e : Env} {s : State} {m : MethodId} {args : Array Value} {below : List Frame} {meth : Method} {c : Code} {H : Heap} {locs : List Loc} {cells slots pc n ra mc ms : Nat} {Qw : State → Prop} {D : va_G} {cI cR : ClassId} {h : xHp} {ls : Array Slot} {c0 : xSig} {rest : List Value} {P : Option Value → xHp → Prop}
    (X : LX p s m args c) (C : LC s D cI cR h H locs) (hls : ls.size = 4) (hlink : Cond.methodLink R_law n (sgN c0) ∈ lw_g) (hq : xmi c0) (hfr : sgF c0 + 1 ≤ 9) (hlo : 8 + (sgL c0 + 11) + sgO c0 ≤ 318) (hlen : 0 = sgP c0) (hsp : SpecA c0 [.ref ra] h mc ms P) (h8 : (rest.map fun v => v.category).sum ≤ 8) (hd : decode code pc = .ok (.invokespecial n, 3)) (hcs : cells + mc ≤ 600000 ∧ slots + ms ≤ 7302250) (hcd : h.1 + mc ≤ 600000 ∧ h.2.1 + ms ≤ 7302250)
    (kk : ∀ (h' : xHp) (H1 : Heap) (locs1 : List Loc), P none h' → LC s D cI cR h' H1 locs1 → W p l e room_1 s m args below meth c H1 locs1 (cells + mc) (slots + ms) Qw (F0 m (pc + 3) ls rest)) : W p l e room_1 s m args below meth c H locs cells slots Qw (F0 m pc ls (.ref (s.heap.size + ra) :: rest)) := by
  obtain ⟨hx, hb, hml, hown, hts⟩ := X
  obtain ⟨hmc, hinst, hnm, hret⟩ := hq
  obtain ⟨-, hsz, hM⟩ := hsp
  have hM := hM l D cI cR s.heap.size
  have hxw : xwd c0 = Cond.code (sgN c0) (sgB c0) (sgL c0) none :: lw_g := by unfold xwd; rw [hret]
  refine x_after (va_runI (b := s.heap.size + ra) (As := []) (rest := rest) ⟨hx, hb, hml, hown, hts⟩ hM (cwI (sgP c0) hts (lgood (xwd_in hmc)) hxw rfl rfl (hts _ hmc.1) (hts _ hlink) (hts _ hinst) hnm ⟨hmc.2.2.1, hmc.2.2.2.1, hmc.2.2.2.2⟩ ⟨hfr, hlo⟩) ⟨x_blind, fun U hU hW => ⟨rfl, by rw [hU]; exact C.2.1, xKk.moved hW.alike C.1⟩⟩ rfl hlen hls rfl (by show 2 * 0 + _ ≤ 8; omega) hd hcs) C.2.2.1 fun v2 h2 H1 locs1 hP hW1 hS1 => ?_
  obtain ⟨rfl, z1, z2⟩ := hsz _ _ hP
  exact kk h2 H1 locs1 hP ⟨C.1, hW1, hS1, C.2.2.2.1, by have := C.2.2.2.2; have g1 : h2.1 ≤ 600000 := by omega
                                                        have g2 : h2.2.1 ≤ 7302250 := by omega
                                                        exact ⟨Nat.zero_le _, g1, Nat.zero_le _, g2⟩⟩
theorem lw_new {p : Program} {l : Launch} {e : Env} {s : State} {m : MethodId} {args : Array Value} {below : List Frame} {meth : Method} {c : Code} {H : Heap} {locs : List Loc} {cells slots pc n ci N : Nat} {Qw : State → Prop} {D : va_G} {cI cR : ClassId} {h : xHp} {ls : Array Slot} {st : List Value}
    (X : LX p s m args c) (C : LC s D cI cR h H locs) (hq : ∃ r, xcl[ci]? = some r ∧ r.2.2 = N ∧ Cond.classLink R_law n r.1 ∈ lw_g ∧ Cond.instantiable r.1 r.2.2 ∈ lw_g ∧ Cond.initialized r.1 ∈ lw_g) (hd : decode code pc = .ok (.new n, 3)) (hcs : cells + 1 ≤ 600000 ∧ slots + N ≤ 7302250) (hcd : h.1 + 1 ≤ 600000 ∧ h.2.1 + N ≤ 7302250)
    (kk : ∀ (H1 : Heap), LC s D cI cR (xnew h N (xob ci (xdef ci))) H1 locs → W p l e room_1 s m args below meth c H1 locs (cells + 1) (slots + N) Qw (F0 m (pc + 3) ls (.ref (s.heap.size + h.1) :: st))) : W p l e room_1 s m args below meth c H locs cells slots Qw (F0 m pc ls st) := by
  obtain ⟨hx, hb, hml, hown, hts⟩ := X
  obtain ⟨rc, hrc, hnn, q1, q2, q3⟩ := hq
  subst hnn
  obtain ⟨C0, T, N⟩ := rc
  obtain ⟨hty, -, -, hdef, hin, hcv⟩ := xcl_in hrc
  have hKn := C.1.1.1 ci _ hrc
  refine W.newcK hx hb hown (hts _ q1) (hts _ q2) (hts _ q3) (g := F0 m pc ls st) rfl hd hcs.1 hcs.2 hKn.2.1 rfl fun H1 kC hkC e1 z1 o1 => ?_
  have C1 : LC s D cI cR (xnew h N (xob ci (xdef ci))) H1 locs := xCx_new C z1 (by
    refine ⟨_, hrc, ?_⟩
    show t_OB (s.heap.size + h.1) (D.1 ci) N (D.2 ci) H1 (vp_V ((xdef ci).map (xcv s.heap.size)))
    rw [hcv, ← C.2.1.1]
    exact (u_born (xfty ci) hts hin hKn hkC e1 hty).to hdef) o1 hcd.1 hcd.2
  have e2 : H.size = s.heap.size + h.1 := C.2.1.1
  rw [e2]
  exact kk H1 C1
def largs : List Nat → Nat → Bool
  | [], _ => true
  | j :: js, q => decide (decode code q = .ok (.aload_n 0, 1)) && (decide (decode code (q + 1) = .ok (.iload_n 3, 1)) && (decide (decode code (q + 1 + 1) = .ok (.iconst (j : Int), 1)) && (decide (decode code (q + 1 + 1 + 1) = .ok (.iadd, 1)) && (decide (decode code (q + 1 + 1 + 1 + 1) = .ok (.iaload, 1)) && largs js (q + 5)))))
theorem lw_args {p : Program} {l : Launch} {e : Env} {s : State} {m : MethodId} {below : List Frame} {meth : Method} {c : Code} {H : Heap} {locs : List Loc} {cells slots b L i : Nat} {xs : Nat → Int32} {Qw : State → Prop} {ls : Array Slot} {args : Array Value}
    (X : LX p s m args c) (hX : va_X b L xs s s.heap) (hbl : b < s.heap.size) (hS : va_S (fun q => s.heap.size ≤ q) s.heap H locs) (hL : L ≤ 2048) (hl0 : ls[0]? = some (.val (.ref b))) (hl3 : ls[3]? = some (.val (.int (nI i)))) :
    ∀ (js : List Nat) (q : Nat) (st : List Value), (∀ j, j ∈ js → j < 4 ∧ i + j < L) → largs js q = true → W p l e room_1 s m args below meth c H locs cells slots Qw (F0 m (q + 5 * js.length) ls ((js.map (fun j => Value.int (xs (i + j)))).reverse ++ st)) → W p l e room_1 s m args below meth c H locs cells slots Qw (F0 m q ls st) := by
  intro js
  induction js with
  | nil =>
    intro q st _ _ k
    rw [List.map_nil, List.reverse_nil, List.nil_append, List.length_nil, Nat.mul_zero, Nat.add_zero] at k
    exact k
  | cons j js ih =>
    intro q st hj ha k
    have hbA : ¬ (fun q : Nat => s.heap.size ≤ q) b := Nat.not_le.mpr hbl
    obtain ⟨hx, hb, hml, hown, hts⟩ := id X
    unfold largs at ha
    rw [Bool.and_eq_true, Bool.and_eq_true, Bool.and_eq_true, Bool.and_eq_true, Bool.and_eq_true, decide_eq_true_eq, decide_eq_true_eq, decide_eq_true_eq, decide_eq_true_eq, decide_eq_true_eq] at ha
    obtain ⟨a1, a2, a3, a4, a5, a6⟩ := ha
    obtain ⟨hj4, hji⟩ := hj j List.mem_cons_self
    refine lv_aload_n hx hb a1 rfl hl0 ?_
    refine lv_iload_n hx hb a2 rfl hl3 ?_
    refine lv_iconst (v := nI j) hx hb a3 (by
      have : j = 0 ∨ j = 1 ∨ j = 2 ∨ j = 3 := by omega
      rcases this with z | z | z | z <;> subst z <;> decide) ?_
    refine lv_iadd hx hb a4 ?_
    rw [nI_add]
    refine va_sld hx hb hX hbl hbA hS (vp_in_nI hji (by omega)) a5 ?_
    rw [nI_clamp (by omega)]
    refine ih (q + 5) (.int (xs (i + j)) :: st) (fun y hy => hj y (List.mem_cons_of_mem _ hy)) a6 ?_
    rw [List.map_cons, List.reverse_cons, List.append_assoc, List.length_cons, show q + 5 * (js.length + 1) = q + 5 + 5 * js.length by omega] at k
    exact k
def lpat (js : List Nat) (P i1 i2 : Nat) (off : Int) : Bool :=
  decide (decode code P = .ok (.aload_n 1, 1)) && (largs js (P + 1) && (decide (decode code (P + 1 + 5 * js.length) = .ok (.invokevirtual i1, 3)) && (decide (decode code (P + 1 + 5 * js.length + 3) = .ok (.aload_n 2, 1)) && (largs js (P + 1 + 5 * js.length + 3 + 1) &&
  (decide (decode code (P + 1 + 5 * js.length + 3 + 1 + 5 * js.length) = .ok (.invokevirtual i2, 3)) && (decide (decode code (P + 1 + 5 * js.length + 3 + 1 + 5 * js.length + 3) = .ok (.if_icmp .eq off, 3)) && decide (((P + 1 + 5 * js.length + 3 + 1 + 5 * js.length + 3 : Nat) : Int) + off = (1254 : Nat))))))))
def lroom (g : xSig) (k : Nat) : Bool := Nat.ble (sgF g + 1) 9 && (Nat.ble (8 + (sgL g + 11) + sgO g) 318 && Nat.beq k (sgP g))
theorem lroom_el {g : xSig} {k : Nat} (h : lroom g k = true) : sgF g + 1 ≤ 9 ∧ 8 + (sgL g + 11) + sgO g ≤ 318 ∧ k = sgP g := by
  unfold lroom at h
  rw [Bool.and_eq_true, Bool.and_eq_true] at h
  exact ⟨Nat.le_of_ble_eq_true h.1, Nat.le_of_ble_eq_true h.2.1, Nat.eq_of_beq_eq_true h.2.2⟩
theorem lints {B : Nat} {f : Nat → Int32} : ∀ js : List Nat, (js.map (fun j => Value.int (f j))).map (xcv B) = js.map (fun j => Value.int (f j))
  | [] => rfl
  | j :: js => by rw [List.map_cons, List.map_cons, lints js]; rfl
theorem lw_case {p : Program} {l : Launch} {e : Env} {s : State} {m : MethodId} {args : Array Value} {below : List Frame} {meth : Method} {c : Code} {H : Heap} {locs : List Loc} {b L i P i1 i2 : Nat} {off : Int} {xs : Nat → Int32} {Qw : State → Prop} {D : va_G} {cI cR : ClassId} {ls : Array Slot} {js : List Nat} {ω : Wv} {gT gM : xSig} (v : Int32 × Wv)
    (X : LX p s m args c) (hl : lv_has ls 4 [(3, .int (nI i)), (2, .ref (s.heap.size + 84)), (1, .ref (s.heap.size + 0)), (0, .ref b)]) (hX : va_X b L xs s s.heap) (hbl : b < s.heap.size) (hL : L ≤ 2048) (hi : i + 3 < L) (I : LI s D cI cR ω H locs)
    (hT : ∀ h, isT h 0 ω → SpecR gT (.ref 0 :: js.map (fun j => Value.int (xs (i + j)))) h (pT h 0 v)) (hM : ∀ h, isM h 84 ω → SpecR gM (.ref 84 :: js.map (fun j => Value.int (xs (i + j)))) h (pM h 84 v)) (k1 : Cond.methodLink R_law i1 (sgN gT) ∈ lw_g) (k2 : Cond.methodLink R_law i2 (sgN gM) ∈ lw_g) (q1 : xmv gT) (q2 : xmv gM) (b1 : lroom gT js.length = true) (b2 : lroom gM js.length = true) (pat : lpat js P i1 i2 off = true) (hj : js.all (fun j => Nat.ble j 3) = true)
    (cont : ∀ H' locs', LI s D cI cR v.2 H' locs' → W p l e room_1 s m args below meth c H' locs' 98 22955 Qw (F0 m 1254 ls [])) : W p l e room_1 s m args below meth c H locs 98 22955 Qw (F0 m P ls []) := by
  unfold lpat at pat
  rw [Bool.and_eq_true, Bool.and_eq_true, Bool.and_eq_true, Bool.and_eq_true, Bool.and_eq_true, Bool.and_eq_true, Bool.and_eq_true, decide_eq_true_eq, decide_eq_true_eq, decide_eq_true_eq, decide_eq_true_eq, decide_eq_true_eq, decide_eq_true_eq] at pat
  obtain ⟨d1, d2, d3, d4, d5, d6, d7, d8⟩ := pat
  obtain ⟨r1, r2, r3⟩ := lroom_el b1
  obtain ⟨r4, r5, r6⟩ := lroom_el b2
  have hjs : ∀ j, j ∈ js → j < 4 ∧ i + j < L := fun j hm => by
    have := Nat.le_of_ble_eq_true (List.all_eq_true.mp hj j hm)
    omega
  obtain ⟨hx, hb, hml, hown, hts⟩ := id X
  obtain ⟨h, C, wT, wM⟩ := I
  have hcs : 98 ≤ 600000 ∧ 22955 ≤ 7302250 := ⟨Nat.le_of_ble_eq_true rfl, Nat.le_of_ble_eq_true rfl⟩
  refine lv_aload_n hx hb d1 rfl (lv_at hl 2 rfl) ?_
  refine lw_args X hX hbl C.2.2.1 hL (lv_at hl 3 rfl) (lv_at hl 0 rfl) js (P + 1) _ hjs d2 ?_
  refine lw_virt (ra := 0) (rest := []) X C hl.1 k1 q1 r1 r2 ((List.length_map ..).trans r3) (lints js) (hT h wT) (Nat.zero_le _) d3 hcs (fun r h1 H1 locs1 z C1 => ?_)
  obtain ⟨rfl, wT1, fr1⟩ := z
  have wM1 := wM.fr fr1 (by omega)
  refine lv_aload_n hx hb d4 rfl (lv_at hl 1 rfl) ?_
  refine lw_args X hX hbl C1.2.2.1 hL (lv_at hl 3 rfl) (lv_at hl 0 rfl) js (P + 1 + 5 * js.length + 3 + 1) _ hjs d5 ?_
  refine lw_virt (ra := 84) (rest := [.int v.1]) X C1 hl.1 k2 q2 r4 r5 ((List.length_map ..).trans r6) (lints js) (hM h1 wM1) (Nat.le_of_ble_eq_true rfl) d6 hcs (fun r h2 H2 locs2 z C2 => ?_)
  obtain ⟨rfl, wM2, fr2⟩ := z
  have wT2 := wT1.fr fr2 (by omega)
  exact lv_icmp_eq (tgt := 1254) hx hb d7 d8 (fun _ => cont H2 locs2 ⟨h2, C2, wT2, wM2⟩) (fun z => absurd rfl z)
