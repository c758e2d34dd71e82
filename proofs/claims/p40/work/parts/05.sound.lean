/-! SOUNDNESS OF A STEP over the kit's W -/
section XS
variable {lim : Nat × Nat} {g : xSig} {Q : Option Value → xHp → Prop} {pc : Nat} {L : xLo} {st : List Value} {h : xHp} {len : Nat} {lk : xL} {k : xK}
/-- an instruction that leaves the heap as it is -/
theorem xa_of {pc' : Nat} {L' : xLo} {st' : List Value}
    (step : ∀ (p : Program) (l : Launch) (e : Env) (R : Room) (s : State) (m : MethodId) (args : Array Value) (below : List Frame) (meth : Method) (c : Code) (H : Heap) (locs : List Loc) (cells slots : Nat) (Qw : State → Prop) (ls : Array Slot) (b : xB),
      xFix p s m args meth c g → lv_has ls (sgL g) (xcL b L) → (∀ ls' : Array Slot, lv_has ls' (sgL g) (xcL b L') → W p l e R s m args below meth c H locs cells slots Qw (F0 m pc' ls' (st'.map (xcv b)))) → W p l e R s m args below meth c H locs cells slots Qw (F0 m pc ls (st.map (xcv b))))
    (kk : xAt lim g Q pc' L' st' h) : xAt lim g Q pc L st h :=
  fun p l e s m args below meth c D cI cR b N0 S0 H locs ls X C hl => step p l e _ s m args below meth c H locs _ _ _ ls b X hl (fun ls' hl' => kk p l e s m args below meth c D cI cR b N0 S0 H locs ls' X C hl')
theorem xlv_el {f : Int32 → Prop} (h : xlv lk f) : ∃ v, lk = .inr (.inr (.inl v)) ∧ f v := by
  unfold xlv at h
  split at h
  · exact ⟨_, rfl, h⟩
  · exact h.elim
theorem xlw_el {f : Int64 → Prop} (h : xlw lk f) : ∃ v, lk = .inr (.inr (.inr (.inl v))) ∧ f v := by
  unfold xlw at h
  split at h
  · exact ⟨_, rfl, h⟩
  · exact h.elim
theorem xlf_el {f : Nat → Nat → Prop} (h : xlf lk f) : ∃ a b, lk = .inl (a, b) ∧ f a b := by
  unfold xlf at h
  split at h
  · exact ⟨_, _, rfl, h⟩
  · exact h.elim
theorem bif_el {b : Bool} {p : Prop} (h : bif b then p else False) : b = true ∧ p := by
  cases b with
  | true => exact ⟨rfl, h⟩
  | false => exact h.elim
theorem and_el {a b : Bool} (h : (a && b) = true) : a = true ∧ b = true := by
  cases a <;> cases b <;> first | exact ⟨rfl, rfl⟩ | cases h

theorem xs_iconst (hk : ∀ pc L st h, k pc L st h → xAt lim g Q pc L st h) {n : Int} (hd : decode (sgB g) pc = .ok (.iconst n, len)) (hc : xck g (pc, .iconst n, len, lk) = true) (hs : xstep lim g k Q pc L st h (.iconst n) len lk) : xAt lim g Q pc L st h := by
  obtain ⟨v, rfl, hs⟩ := xlv_el hs
  obtain ⟨h1, h2⟩ := and_el hc
  have h2 := nb_eq h2
  subst h2
  exact xa_of (fun p l e R s m args below meth c H locs cells slots Qw ls b X hl kk => lv_iconst X.1 X.2.1 hd (of_decide_eq_true h1) (kk ls hl)) (hk _ _ _ _ hs)
theorem xs_bipush (hk : ∀ pc L st h, k pc L st h → xAt lim g Q pc L st h) {n : Int} (hd : decode (sgB g) pc = .ok (.bipush n, len)) (hc : xck g (pc, .bipush n, len, lk) = true) (hs : xstep lim g k Q pc L st h (.bipush n) len lk) : xAt lim g Q pc L st h := by
  obtain ⟨v, rfl, hs⟩ := xlv_el hs
  obtain ⟨h1, h2⟩ := and_el hc
  have h2 := nb_eq h2
  subst h2
  exact xa_of (fun p l e R s m args below meth c H locs cells slots Qw ls b X hl kk => lv_bipush X.1 X.2.1 hd (of_decide_eq_true h1) (kk ls hl)) (hk _ _ _ _ hs)
theorem xs_sipush (hk : ∀ pc L st h, k pc L st h → xAt lim g Q pc L st h) {n : Int} (hd : decode (sgB g) pc = .ok (.sipush n, len)) (hc : xck g (pc, .sipush n, len, lk) = true) (hs : xstep lim g k Q pc L st h (.sipush n) len lk) : xAt lim g Q pc L st h := by
  obtain ⟨v, rfl, hs⟩ := xlv_el hs
  obtain ⟨h1, h2⟩ := and_el hc
  have h2 := nb_eq h2
  subst h2
  exact xa_of (fun p l e R s m args below meth c H locs cells slots Qw ls b X hl kk => lv_sipush X.1 X.2.1 hd (of_decide_eq_true h1) (kk ls hl)) (hk _ _ _ _ hs)
theorem xs_ldc (hk : ∀ pc L st h, k pc L st h → xAt lim g Q pc L st h) {n : Nat} (hd : decode (sgB g) pc = .ok (.ldc n, len)) (hc : xck g (pc, .ldc n, len, lk) = true) (hq : xlk g (pc, .ldc n, len, lk)) (hs : xstep lim g k Q pc L st h (.ldc n) len lk) : xAt lim g Q pc L st h := by
  obtain ⟨v, rfl, hs⟩ := xlv_el hs
  have h2 := nb_eq hc
  subst h2
  exact xa_of (fun p l e R s m args below meth c H locs cells slots Qw ls b X hl kk => lv_ldc X.1 X.2.1 X.2.2.2.2.2.1 (X.2.2.2.2.2.2.2 _ (List.mem_cons_of_mem _ hq)) hd (kk ls hl)) (hk _ _ _ _ hs)
theorem xs_ldc_w (hk : ∀ pc L st h, k pc L st h → xAt lim g Q pc L st h) {n : Nat} (hd : decode (sgB g) pc = .ok (.ldc_w n, len)) (hc : xck g (pc, .ldc_w n, len, lk) = true) (hq : xlk g (pc, .ldc_w n, len, lk)) (hs : xstep lim g k Q pc L st h (.ldc_w n) len lk) : xAt lim g Q pc L st h := by
  obtain ⟨v, rfl, hs⟩ := xlv_el hs
  have h2 := nb_eq hc
  subst h2
  exact xa_of (fun p l e R s m args below meth c H locs cells slots Qw ls b X hl kk => lv_ldcw X.1 X.2.1 X.2.2.2.2.2.1 (X.2.2.2.2.2.2.2 _ (List.mem_cons_of_mem _ hq)) hd (kk ls hl)) (hk _ _ _ _ hs)
theorem xs_ldc2_w (hk : ∀ pc L st h, k pc L st h → xAt lim g Q pc L st h) {n : Nat} (hd : decode (sgB g) pc = .ok (.ldc2_w n, len)) (hc : xck g (pc, .ldc2_w n, len, lk) = true) (hq : xlk g (pc, .ldc2_w n, len, lk)) (hs : xstep lim g k Q pc L st h (.ldc2_w n) len lk) : xAt lim g Q pc L st h := by
  obtain ⟨v, rfl, hs⟩ := xlw_el hs
  have h2 := nb_eq hc
  subst h2
  exact xa_of (fun p l e R s m args below meth c H locs cells slots Qw ls b X hl kk => lv_ldc2 X.1 X.2.1 X.2.2.2.2.2.1 (X.2.2.2.2.2.2.2 _ (List.mem_cons_of_mem _ hq)) hd (kk ls hl)) (hk _ _ _ _ hs)
theorem xs_iload (hk : ∀ pc L st h, k pc L st h → xAt lim g Q pc L st h) {i : Nat} (hd : decode (sgB g) pc = .ok (.iload i, len)) (hc : xck g (pc, .iload i, len, lk) = true) (hs : xstep lim g k Q pc L st h (.iload i) len lk) : xAt lim g Q pc L st h := by
  obtain ⟨x, hx, hs⟩ := xgi_el hs
  have h2 := nb_eq hc
  subst h2
  exact xa_of (fun p l e R s m args below meth c H locs cells slots Qw ls b X hl kk => lv_iload X.1 X.2.1 hd (xl_get hl hx) (kk ls hl)) (hk _ _ _ _ hs)
theorem xs_iload_n (hk : ∀ pc L st h, k pc L st h → xAt lim g Q pc L st h) {i : Fin 4} (hd : decode (sgB g) pc = .ok (.iload_n i, len)) (hc : xck g (pc, .iload_n i, len, lk) = true) (hs : xstep lim g k Q pc L st h (.iload_n i) len lk) : xAt lim g Q pc L st h := by
  obtain ⟨x, hx, hs⟩ := xgi_el hs
  have h2 := nb_eq hc
  subst h2
  exact xa_of (fun p l e R s m args below meth c H locs cells slots Qw ls b X hl kk => lv_iload_n X.1 X.2.1 hd rfl (xl_get hl hx) (kk ls hl)) (hk _ _ _ _ hs)
theorem xs_lload (hk : ∀ pc L st h, k pc L st h → xAt lim g Q pc L st h) {i : Nat} (hd : decode (sgB g) pc = .ok (.lload i, len)) (hc : xck g (pc, .lload i, len, lk) = true) (hs : xstep lim g k Q pc L st h (.lload i) len lk) : xAt lim g Q pc L st h := by
  obtain ⟨x, hx, hs⟩ := xgl_el hs
  have h2 := nb_eq hc
  subst h2
  exact xa_of (fun p l e R s m args below meth c H locs cells slots Qw ls b X hl kk => lv_lload X.1 X.2.1 hd (xl_get hl hx) (kk ls hl)) (hk _ _ _ _ hs)
theorem xs_lload_n (hk : ∀ pc L st h, k pc L st h → xAt lim g Q pc L st h) {i : Fin 4} (hd : decode (sgB g) pc = .ok (.lload_n i, len)) (hc : xck g (pc, .lload_n i, len, lk) = true) (hs : xstep lim g k Q pc L st h (.lload_n i) len lk) : xAt lim g Q pc L st h := by
  obtain ⟨x, hx, hs⟩ := xgl_el hs
  have h2 := nb_eq hc
  subst h2
  exact xa_of (fun p l e R s m args below meth c H locs cells slots Qw ls b X hl kk => lv_lload_n X.1 X.2.1 hd rfl (xl_get hl hx) (kk ls hl)) (hk _ _ _ _ hs)
theorem xs_aload (hk : ∀ pc L st h, k pc L st h → xAt lim g Q pc L st h) {i : Nat} (hd : decode (sgB g) pc = .ok (.aload i, len)) (hc : xck g (pc, .aload i, len, lk) = true) (hs : xstep lim g k Q pc L st h (.aload i) len lk) : xAt lim g Q pc L st h := by
  replace hs : xgq L i (fun v => k (pc + len) L (v :: st) h) := hs
  have hs0 := hs
  obtain ⟨v, -, hx, -, hs⟩ := xgq_el (b := (0, 0)) hs
  have h2 := nb_eq hc
  subst h2
  exact xa_of (fun p l e R s m args below meth c H locs cells slots Qw ls b X hl kk => by
    obtain ⟨v', y, hx', hy, -⟩ := xgq_el (b := b) hs0
    rw [hx] at hx'
    cases hx'
    have e1 := xl_get hl hx
    have kk1 := kk ls hl
    rw [List.map_cons, hy] at kk1
    rw [hy] at e1
    exact lv_aload X.1 X.2.1 hd e1 kk1) (hk _ _ _ _ hs)
theorem xs_aload_n (hk : ∀ pc L st h, k pc L st h → xAt lim g Q pc L st h) {i : Fin 4} (hd : decode (sgB g) pc = .ok (.aload_n i, len)) (hc : xck g (pc, .aload_n i, len, lk) = true) (hs : xstep lim g k Q pc L st h (.aload_n i) len lk) : xAt lim g Q pc L st h := by
  replace hs : xgq L i.val (fun v => k (pc + len) L (v :: st) h) := hs
  have hs0 := hs
  obtain ⟨v, -, hx, -, hs⟩ := xgq_el (b := (0, 0)) hs
  have h2 := nb_eq hc
  subst h2
  exact xa_of (fun p l e R s m args below meth c H locs cells slots Qw ls b X hl kk => by
    obtain ⟨v', y, hx', hy, -⟩ := xgq_el (b := b) hs0
    rw [hx] at hx'
    cases hx'
    have e1 := xl_get hl hx
    have kk1 := kk ls hl
    rw [List.map_cons, hy] at kk1
    rw [hy] at e1
    exact lv_aload_n X.1 X.2.1 hd rfl e1 kk1) (hk _ _ _ _ hs)
theorem xs_istore (hk : ∀ pc L st h, k pc L st h → xAt lim g Q pc L st h) {i : Nat} (hd : decode (sgB g) pc = .ok (.istore i, len)) (hc : xck g (pc, .istore i, len, lk) = true) (hs : xstep lim g k Q pc L st h (.istore i) len lk) : xAt lim g Q pc L st h := by
  obtain ⟨x, r, rfl, hs⟩ := xpi_el hs
  obtain ⟨h1, h2⟩ := and_el hc
  have h2 := nb_eq h2
  subst h2
  exact xa_of (fun p l e R s m args below meth c H locs cells slots Qw ls b X hl kk => lv_istore X.1 X.2.1 hd hl (Nat.le_of_ble_eq_true h1) rfl (fun ls' h' => kk ls' (xl_of h' xl_put1))) (hk _ _ _ _ hs)
theorem xs_istore_n (hk : ∀ pc L st h, k pc L st h → xAt lim g Q pc L st h) {i : Fin 4} (hd : decode (sgB g) pc = .ok (.istore_n i, len)) (hc : xck g (pc, .istore_n i, len, lk) = true) (hs : xstep lim g k Q pc L st h (.istore_n i) len lk) : xAt lim g Q pc L st h := by
  obtain ⟨x, r, rfl, hs⟩ := xpi_el hs
  obtain ⟨h1, h2⟩ := and_el hc
  have h2 := nb_eq h2
  subst h2
  exact xa_of (fun p l e R s m args below meth c H locs cells slots Qw ls b X hl kk => lv_istore_n X.1 X.2.1 hd rfl hl (Nat.le_of_ble_eq_true h1) rfl (fun ls' h' => kk ls' (xl_of h' xl_put1))) (hk _ _ _ _ hs)
theorem xs_lstore (hk : ∀ pc L st h, k pc L st h → xAt lim g Q pc L st h) {i : Nat} (hd : decode (sgB g) pc = .ok (.lstore i, len)) (hc : xck g (pc, .lstore i, len, lk) = true) (hs : xstep lim g k Q pc L st h (.lstore i) len lk) : xAt lim g Q pc L st h := by
  obtain ⟨x, r, rfl, hs⟩ := xpl_el hs
  obtain ⟨h1, h2⟩ := and_el hc
  have h2 := nb_eq h2
  subst h2
  exact xa_of (fun p l e R s m args below meth c H locs cells slots Qw ls b X hl kk => lv_lstore X.1 X.2.1 hd hl (Nat.le_of_ble_eq_true h1) rfl (fun ls' h' => kk ls' (xl_of h' xl_put2))) (hk _ _ _ _ hs)
theorem xs_lstore_n (hk : ∀ pc L st h, k pc L st h → xAt lim g Q pc L st h) {i : Fin 4} (hd : decode (sgB g) pc = .ok (.lstore_n i, len)) (hc : xck g (pc, .lstore_n i, len, lk) = true) (hs : xstep lim g k Q pc L st h (.lstore_n i) len lk) : xAt lim g Q pc L st h := by
  obtain ⟨x, r, rfl, hs⟩ := xpl_el hs
  obtain ⟨h1, h2⟩ := and_el hc
  have h2 := nb_eq h2
  subst h2
  exact xa_of (fun p l e R s m args below meth c H locs cells slots Qw ls b X hl kk => lv_lstore_n X.1 X.2.1 hd rfl hl (Nat.le_of_ble_eq_true h1) rfl (fun ls' h' => kk ls' (xl_of h' xl_put2))) (hk _ _ _ _ hs)
theorem xs_astore (hk : ∀ pc L st h, k pc L st h → xAt lim g Q pc L st h) {i : Nat} (hd : decode (sgB g) pc = .ok (.astore i, len)) (hc : xck g (pc, .astore i, len, lk) = true) (hs : xstep lim g k Q pc L st h (.astore i) len lk) : xAt lim g Q pc L st h := by
  obtain ⟨x, r, rfl, hs⟩ := xpr_el hs
  obtain ⟨h1, h2⟩ := and_el hc
  have h2 := nb_eq h2
  subst h2
  exact xa_of (fun p l e R s m args below meth c H locs cells slots Qw ls b X hl kk => lv_astore X.1 X.2.1 hd hl (Nat.le_of_ble_eq_true h1) rfl (fun ls' h' => kk ls' (xl_of h' xl_put1))) (hk _ _ _ _ hs)
theorem xs_astore_n (hk : ∀ pc L st h, k pc L st h → xAt lim g Q pc L st h) {i : Fin 4} (hd : decode (sgB g) pc = .ok (.astore_n i, len)) (hc : xck g (pc, .astore_n i, len, lk) = true) (hs : xstep lim g k Q pc L st h (.astore_n i) len lk) : xAt lim g Q pc L st h := by
  obtain ⟨x, r, rfl, hs⟩ := xpr_el hs
  obtain ⟨h1, h2⟩ := and_el hc
  have h2 := nb_eq h2
  subst h2
  exact xa_of (fun p l e R s m args below meth c H locs cells slots Qw ls b X hl kk => lv_astore_n X.1 X.2.1 hd rfl hl (Nat.le_of_ble_eq_true h1) rfl (fun ls' h' => kk ls' (xl_of h' xl_put1))) (hk _ _ _ _ hs)
theorem xs_iinc (hk : ∀ pc L st h, k pc L st h → xAt lim g Q pc L st h) {i : Nat} {n : Int} (hd : decode (sgB g) pc = .ok (.iinc i n, len)) (hc : xck g (pc, .iinc i n, len, lk) = true) (hs : xstep lim g k Q pc L st h (.iinc i n) len lk) : xAt lim g Q pc L st h := by
  obtain ⟨v, rfl, hs⟩ := xlv_el hs
  obtain ⟨x, hx, hs⟩ := xgi_el hs
  obtain ⟨h01, h2⟩ := and_el hc
  obtain ⟨h0, h1⟩ := and_el h01
  have h2 := nb_eq h2
  subst h2
  have h0 : Int32.ofInt n = v := of_decide_eq_true h0
  subst h0
  refine xa_of (fun p l e R s m args below meth c H locs cells slots Qw ls b X hl kk => ?_) (hk _ _ _ _ hs)
  obtain ⟨q, hq⟩ := List.getElem?_of_mem (List.mem_map.mpr ⟨(i, .int x), xget_mem hx, rfl⟩ : (i, xcv b (.int x)) ∈ xcL b L)
  exact lv_iinc X.1 X.2.1 hd hl hq rfl (Nat.le_of_ble_eq_true h1) rfl (fun ls' h' => kk ls' (xl_of h' xl_put1))
theorem xs_iadd (hk : ∀ pc L st h, k pc L st h → xAt lim g Q pc L st h) (hd : decode (sgB g) pc = .ok (.iadd, len)) (hc : xck g (pc, .iadd, len, lk) = true) (hs : xstep lim g k Q pc L st h .iadd len lk) : xAt lim g Q pc L st h := by
  obtain ⟨y, r, rfl, hs⟩ := xpi_el hs
  obtain ⟨x, r, rfl, hs⟩ := xpi_el hs
  have h2 := nb_eq hc
  subst h2
  exact xa_of (fun p l e R s m args below meth c H locs cells slots Qw ls b X hl kk => lv_iadd X.1 X.2.1 hd (kk ls hl)) (hk _ _ _ _ hs)
theorem xs_isub (hk : ∀ pc L st h, k pc L st h → xAt lim g Q pc L st h) (hd : decode (sgB g) pc = .ok (.isub, len)) (hc : xck g (pc, .isub, len, lk) = true) (hs : xstep lim g k Q pc L st h .isub len lk) : xAt lim g Q pc L st h := by
  obtain ⟨y, r, rfl, hs⟩ := xpi_el hs
  obtain ⟨x, r, rfl, hs⟩ := xpi_el hs
  have h2 := nb_eq hc
  subst h2
  exact xa_of (fun p l e R s m args below meth c H locs cells slots Qw ls b X hl kk => lv_isub X.1 X.2.1 hd (kk ls hl)) (hk _ _ _ _ hs)
theorem xs_imul (hk : ∀ pc L st h, k pc L st h → xAt lim g Q pc L st h) (hd : decode (sgB g) pc = .ok (.imul, len)) (hc : xck g (pc, .imul, len, lk) = true) (hs : xstep lim g k Q pc L st h .imul len lk) : xAt lim g Q pc L st h := by
  obtain ⟨y, r, rfl, hs⟩ := xpi_el hs
  obtain ⟨x, r, rfl, hs⟩ := xpi_el hs
  have h2 := nb_eq hc
  subst h2
  exact xa_of (fun p l e R s m args below meth c H locs cells slots Qw ls b X hl kk => lv_imul X.1 X.2.1 hd (kk ls hl)) (hk _ _ _ _ hs)
theorem xs_iand (hk : ∀ pc L st h, k pc L st h → xAt lim g Q pc L st h) (hd : decode (sgB g) pc = .ok (.iand, len)) (hc : xck g (pc, .iand, len, lk) = true) (hs : xstep lim g k Q pc L st h .iand len lk) : xAt lim g Q pc L st h := by
  obtain ⟨y, r, rfl, hs⟩ := xpi_el hs
  obtain ⟨x, r, rfl, hs⟩ := xpi_el hs
  have h2 := nb_eq hc
  subst h2
  exact xa_of (fun p l e R s m args below meth c H locs cells slots Qw ls b X hl kk => lv_iand X.1 X.2.1 hd (kk ls hl)) (hk _ _ _ _ hs)
theorem xs_ior (hk : ∀ pc L st h, k pc L st h → xAt lim g Q pc L st h) (hd : decode (sgB g) pc = .ok (.ior, len)) (hc : xck g (pc, .ior, len, lk) = true) (hs : xstep lim g k Q pc L st h .ior len lk) : xAt lim g Q pc L st h := by
  obtain ⟨y, r, rfl, hs⟩ := xpi_el hs
  obtain ⟨x, r, rfl, hs⟩ := xpi_el hs
  have h2 := nb_eq hc
  subst h2
  exact xa_of (fun p l e R s m args below meth c H locs cells slots Qw ls b X hl kk => lv_ior X.1 X.2.1 hd (kk ls hl)) (hk _ _ _ _ hs)
theorem xs_ixor (hk : ∀ pc L st h, k pc L st h → xAt lim g Q pc L st h) (hd : decode (sgB g) pc = .ok (.ixor, len)) (hc : xck g (pc, .ixor, len, lk) = true) (hs : xstep lim g k Q pc L st h .ixor len lk) : xAt lim g Q pc L st h := by
  obtain ⟨y, r, rfl, hs⟩ := xpi_el hs
  obtain ⟨x, r, rfl, hs⟩ := xpi_el hs
  have h2 := nb_eq hc
  subst h2
  exact xa_of (fun p l e R s m args below meth c H locs cells slots Qw ls b X hl kk => lv_ixor X.1 X.2.1 hd (kk ls hl)) (hk _ _ _ _ hs)
theorem xs_ishl (hk : ∀ pc L st h, k pc L st h → xAt lim g Q pc L st h) (hd : decode (sgB g) pc = .ok (.ishl, len)) (hc : xck g (pc, .ishl, len, lk) = true) (hs : xstep lim g k Q pc L st h .ishl len lk) : xAt lim g Q pc L st h := by
  obtain ⟨y, r, rfl, hs⟩ := xpi_el hs
  obtain ⟨x, r, rfl, hs⟩ := xpi_el hs
  have h2 := nb_eq hc
  subst h2
  exact xa_of (fun p l e R s m args below meth c H locs cells slots Qw ls b X hl kk => lv_ishl X.1 X.2.1 hd (kk ls hl)) (hk _ _ _ _ hs)
theorem xs_ishr (hk : ∀ pc L st h, k pc L st h → xAt lim g Q pc L st h) (hd : decode (sgB g) pc = .ok (.ishr, len)) (hc : xck g (pc, .ishr, len, lk) = true) (hs : xstep lim g k Q pc L st h .ishr len lk) : xAt lim g Q pc L st h := by
  obtain ⟨y, r, rfl, hs⟩ := xpi_el hs
  obtain ⟨x, r, rfl, hs⟩ := xpi_el hs
  have h2 := nb_eq hc
  subst h2
  exact xa_of (fun p l e R s m args below meth c H locs cells slots Qw ls b X hl kk => lv_ishr X.1 X.2.1 hd (kk ls hl)) (hk _ _ _ _ hs)
theorem xs_iushr (hk : ∀ pc L st h, k pc L st h → xAt lim g Q pc L st h) (hd : decode (sgB g) pc = .ok (.iushr, len)) (hc : xck g (pc, .iushr, len, lk) = true) (hs : xstep lim g k Q pc L st h .iushr len lk) : xAt lim g Q pc L st h := by
  obtain ⟨y, r, rfl, hs⟩ := xpi_el hs
  obtain ⟨x, r, rfl, hs⟩ := xpi_el hs
  have h2 := nb_eq hc
  subst h2
  exact xa_of (fun p l e R s m args below meth c H locs cells slots Qw ls b X hl kk => lv_iushr X.1 X.2.1 hd rfl (kk ls hl)) (hk _ _ _ _ hs)
theorem xs_idiv (hk : ∀ pc L st h, k pc L st h → xAt lim g Q pc L st h) (hd : decode (sgB g) pc = .ok (.idiv, len)) (hc : xck g (pc, .idiv, len, lk) = true) (hs : xstep lim g k Q pc L st h .idiv len lk) : xAt lim g Q pc L st h := by
  obtain ⟨y, r, rfl, hs⟩ := xpi_el hs
  obtain ⟨x, r, rfl, hs⟩ := xpi_el hs
  obtain ⟨hn, hs⟩ := hs
  have h2 := nb_eq hc
  subst h2
  exact xa_of (fun p l e R s m args below meth c H locs cells slots Qw ls b X hl kk => lv_idiv X.1 X.2.1 hd hn (kk ls hl)) (hk _ _ _ _ hs)
theorem xs_irem (hk : ∀ pc L st h, k pc L st h → xAt lim g Q pc L st h) (hd : decode (sgB g) pc = .ok (.irem, len)) (hc : xck g (pc, .irem, len, lk) = true) (hs : xstep lim g k Q pc L st h .irem len lk) : xAt lim g Q pc L st h := by
  obtain ⟨y, r, rfl, hs⟩ := xpi_el hs
  obtain ⟨x, r, rfl, hs⟩ := xpi_el hs
  obtain ⟨hn, hs⟩ := hs
  have h2 := nb_eq hc
  subst h2
  exact xa_of (fun p l e R s m args below meth c H locs cells slots Qw ls b X hl kk => lv_irem X.1 X.2.1 hd hn (kk ls hl)) (hk _ _ _ _ hs)
theorem xs_ineg (hk : ∀ pc L st h, k pc L st h → xAt lim g Q pc L st h) (hd : decode (sgB g) pc = .ok (.ineg, len)) (hc : xck g (pc, .ineg, len, lk) = true) (hs : xstep lim g k Q pc L st h .ineg len lk) : xAt lim g Q pc L st h := by
  obtain ⟨x, r, rfl, hs⟩ := xpi_el hs
  have h2 := nb_eq hc
  subst h2
  exact xa_of (fun p l e R s m args below meth c H locs cells slots Qw ls b X hl kk => lv_ineg X.1 X.2.1 hd (kk ls hl)) (hk _ _ _ _ hs)
theorem xs_ladd (hk : ∀ pc L st h, k pc L st h → xAt lim g Q pc L st h) (hd : decode (sgB g) pc = .ok (.ladd, len)) (hc : xck g (pc, .ladd, len, lk) = true) (hs : xstep lim g k Q pc L st h .ladd len lk) : xAt lim g Q pc L st h := by
  obtain ⟨y, r, rfl, hs⟩ := xpl_el hs
  obtain ⟨x, r, rfl, hs⟩ := xpl_el hs
  have h2 := nb_eq hc
  subst h2
  exact xa_of (fun p l e R s m args below meth c H locs cells slots Qw ls b X hl kk => lv_ladd X.1 X.2.1 hd (kk ls hl)) (hk _ _ _ _ hs)
theorem xs_lmul (hk : ∀ pc L st h, k pc L st h → xAt lim g Q pc L st h) (hd : decode (sgB g) pc = .ok (.lmul, len)) (hc : xck g (pc, .lmul, len, lk) = true) (hs : xstep lim g k Q pc L st h .lmul len lk) : xAt lim g Q pc L st h := by
  obtain ⟨y, r, rfl, hs⟩ := xpl_el hs
  obtain ⟨x, r, rfl, hs⟩ := xpl_el hs
  have h2 := nb_eq hc
  subst h2
  exact xa_of (fun p l e R s m args below meth c H locs cells slots Qw ls b X hl kk => lv_lmul X.1 X.2.1 hd (kk ls hl)) (hk _ _ _ _ hs)
theorem xs_i2l (hk : ∀ pc L st h, k pc L st h → xAt lim g Q pc L st h) (hd : decode (sgB g) pc = .ok (.i2l, len)) (hc : xck g (pc, .i2l, len, lk) = true) (hs : xstep lim g k Q pc L st h .i2l len lk) : xAt lim g Q pc L st h := by
  obtain ⟨x, r, rfl, hs⟩ := xpi_el hs
  have h2 := nb_eq hc
  subst h2
  exact xa_of (fun p l e R s m args below meth c H locs cells slots Qw ls b X hl kk => lv_i2l X.1 X.2.1 hd rfl (kk ls hl)) (hk _ _ _ _ hs)
theorem xs_dup (hk : ∀ pc L st h, k pc L st h → xAt lim g Q pc L st h) (hd : decode (sgB g) pc = .ok (.dup, len)) (hc : xck g (pc, .dup, len, lk) = true) (hs : xstep lim g k Q pc L st h .dup len lk) : xAt lim g Q pc L st h := by
  obtain ⟨v, r, rfl, hs⟩ := xp1_el hs
  obtain ⟨hv, hs⟩ := bif_el hs
  have hv := nb_eq hv
  have h2 := nb_eq hc
  subst h2
  exact xa_of (fun p l e R s m args below meth c H locs cells slots Qw ls b X hl kk => lv_dup X.1 X.2.1 hd ((xcv_cat b v).trans hv) (kk ls hl)) (hk _ _ _ _ hs)
theorem xs_pop (hk : ∀ pc L st h, k pc L st h → xAt lim g Q pc L st h) (hd : decode (sgB g) pc = .ok (.pop, len)) (hc : xck g (pc, .pop, len, lk) = true) (hs : xstep lim g k Q pc L st h .pop len lk) : xAt lim g Q pc L st h := by
  obtain ⟨v, r, rfl, hs⟩ := xp1_el hs
  obtain ⟨hv, hs⟩ := bif_el hs
  have hv := nb_eq hv
  have h2 := nb_eq hc
  subst h2
  exact xa_of (fun p l e R s m args below meth c H locs cells slots Qw ls b X hl kk => lv_pop X.1 X.2.1 hd ((xcv_cat b v).trans hv) (kk ls hl)) (hk _ _ _ _ hs)
theorem xs_dup2 (hk : ∀ pc L st h, k pc L st h → xAt lim g Q pc L st h) (hd : decode (sgB g) pc = .ok (.dup2, len)) (hc : xck g (pc, .dup2, len, lk) = true) (hs : xstep lim g k Q pc L st h .dup2 len lk) : xAt lim g Q pc L st h := by
  obtain ⟨v, r, rfl, hs⟩ := xp1_el hs
  obtain ⟨u, r, rfl, hs⟩ := xp1_el hs
  obtain ⟨hv, hs⟩ := bif_el hs
  obtain ⟨hv, hu⟩ := and_el hv
  have hv := nb_eq hv
  have hu := nb_eq hu
  have h2 := nb_eq hc
  subst h2
  exact xa_of (fun p l e R s m args below meth c H locs cells slots Qw ls b X hl kk => lv_dup2_11 X.1 X.2.1 hd ((xcv_cat b v).trans hv) ((xcv_cat b u).trans hu) (kk ls hl)) (hk _ _ _ _ hs)
theorem xs_ifCond_eq (hk : ∀ pc L st h, k pc L st h → xAt lim g Q pc L st h) {n : Int} (hd : decode (sgB g) pc = .ok (.ifCond .eq n, len)) (hc : xck g (pc, .ifCond .eq n, len, lk) = true) (hs : xstep lim g k Q pc L st h (.ifCond .eq n) len lk) : xAt lim g Q pc L st h := by
  obtain ⟨t, t2, rfl, hs⟩ := xlf_el hs
  obtain ⟨x, r, rfl, hs⟩ := xpi_el hs
  obtain ⟨h1, h2⟩ := and_el hc
  have h2 := nb_eq h2
  subst h2
  have h1 : (pc : Int) + n = (t : Int) := of_decide_eq_true h1
  intro p l e s m args below meth c D cI cR b N0 S0 H locs ls X C hl
  exact lv_if_eq X.1 X.2.1 hd h1 (fun z => hk _ _ _ _ (hs.1 z) p l e s m args below meth c D cI cR b N0 S0 H locs ls X C hl) (fun z => hk _ _ _ _ (hs.2 z) p l e s m args below meth c D cI cR b N0 S0 H locs ls X C hl)
theorem xs_if_icmp_eq (hk : ∀ pc L st h, k pc L st h → xAt lim g Q pc L st h) {n : Int} (hd : decode (sgB g) pc = .ok (.if_icmp .eq n, len)) (hc : xck g (pc, .if_icmp .eq n, len, lk) = true) (hs : xstep lim g k Q pc L st h (.if_icmp .eq n) len lk) : xAt lim g Q pc L st h := by
  obtain ⟨t, t2, rfl, hs⟩ := xlf_el hs
  obtain ⟨y, r, rfl, hs⟩ := xpi_el hs
  obtain ⟨x, r, rfl, hs⟩ := xpi_el hs
  obtain ⟨h1, h2⟩ := and_el hc
  have h2 := nb_eq h2
  subst h2
  have h1 : (pc : Int) + n = (t : Int) := of_decide_eq_true h1
  intro p l e s m args below meth c D cI cR b N0 S0 H locs ls X C hl
  exact lv_icmp_eq X.1 X.2.1 hd h1 (fun z => hk _ _ _ _ (hs.1 z) p l e s m args below meth c D cI cR b N0 S0 H locs ls X C hl) (fun z => hk _ _ _ _ (hs.2 z) p l e s m args below meth c D cI cR b N0 S0 H locs ls X C hl)
theorem xs_ifCond_ne (hk : ∀ pc L st h, k pc L st h → xAt lim g Q pc L st h) {n : Int} (hd : decode (sgB g) pc = .ok (.ifCond .ne n, len)) (hc : xck g (pc, .ifCond .ne n, len, lk) = true) (hs : xstep lim g k Q pc L st h (.ifCond .ne n) len lk) : xAt lim g Q pc L st h := by
  obtain ⟨t, t2, rfl, hs⟩ := xlf_el hs
  obtain ⟨x, r, rfl, hs⟩ := xpi_el hs
  obtain ⟨h1, h2⟩ := and_el hc
  have h2 := nb_eq h2
  subst h2
  have h1 : (pc : Int) + n = (t : Int) := of_decide_eq_true h1
  intro p l e s m args below meth c D cI cR b N0 S0 H locs ls X C hl
  exact lv_if_ne X.1 X.2.1 hd h1 (fun z => hk _ _ _ _ (hs.2 z) p l e s m args below meth c D cI cR b N0 S0 H locs ls X C hl) (fun z => hk _ _ _ _ (hs.1 z) p l e s m args below meth c D cI cR b N0 S0 H locs ls X C hl)
theorem xs_if_icmp_ne (hk : ∀ pc L st h, k pc L st h → xAt lim g Q pc L st h) {n : Int} (hd : decode (sgB g) pc = .ok (.if_icmp .ne n, len)) (hc : xck g (pc, .if_icmp .ne n, len, lk) = true) (hs : xstep lim g k Q pc L st h (.if_icmp .ne n) len lk) : xAt lim g Q pc L st h := by
  obtain ⟨t, t2, rfl, hs⟩ := xlf_el hs
  obtain ⟨y, r, rfl, hs⟩ := xpi_el hs
  obtain ⟨x, r, rfl, hs⟩ := xpi_el hs
  obtain ⟨h1, h2⟩ := and_el hc
  have h2 := nb_eq h2
  subst h2
  have h1 : (pc : Int) + n = (t : Int) := of_decide_eq_true h1
  intro p l e s m args below meth c D cI cR b N0 S0 H locs ls X C hl
  exact lv_icmp_ne X.1 X.2.1 hd h1 (fun z => hk _ _ _ _ (hs.2 z) p l e s m args below meth c D cI cR b N0 S0 H locs ls X C hl) (fun z => hk _ _ _ _ (hs.1 z) p l e s m args below meth c D cI cR b N0 S0 H locs ls X C hl)
theorem xs_ifCond_lt (hk : ∀ pc L st h, k pc L st h → xAt lim g Q pc L st h) {n : Int} (hd : decode (sgB g) pc = .ok (.ifCond .lt n, len)) (hc : xck g (pc, .ifCond .lt n, len, lk) = true) (hs : xstep lim g k Q pc L st h (.ifCond .lt n) len lk) : xAt lim g Q pc L st h := by
  obtain ⟨t, t2, rfl, hs⟩ := xlf_el hs
  obtain ⟨x, r, rfl, hs⟩ := xpi_el hs
  obtain ⟨h1, h2⟩ := and_el hc
  have h2 := nb_eq h2
  subst h2
  have h1 : (pc : Int) + n = (t : Int) := of_decide_eq_true h1
  intro p l e s m args below meth c D cI cR b N0 S0 H locs ls X C hl
  exact lv_if_lt X.1 X.2.1 hd h1 (fun z => hk _ _ _ _ (hs.1 z) p l e s m args below meth c D cI cR b N0 S0 H locs ls X C hl) (fun z => hk _ _ _ _ (hs.2 z) p l e s m args below meth c D cI cR b N0 S0 H locs ls X C hl)
theorem xs_if_icmp_lt (hk : ∀ pc L st h, k pc L st h → xAt lim g Q pc L st h) {n : Int} (hd : decode (sgB g) pc = .ok (.if_icmp .lt n, len)) (hc : xck g (pc, .if_icmp .lt n, len, lk) = true) (hs : xstep lim g k Q pc L st h (.if_icmp .lt n) len lk) : xAt lim g Q pc L st h := by
  obtain ⟨t, t2, rfl, hs⟩ := xlf_el hs
  obtain ⟨y, r, rfl, hs⟩ := xpi_el hs
  obtain ⟨x, r, rfl, hs⟩ := xpi_el hs
  obtain ⟨h1, h2⟩ := and_el hc
  have h2 := nb_eq h2
  subst h2
  have h1 : (pc : Int) + n = (t : Int) := of_decide_eq_true h1
  intro p l e s m args below meth c D cI cR b N0 S0 H locs ls X C hl
  exact lv_icmp_lt X.1 X.2.1 hd h1 (fun z => hk _ _ _ _ (hs.1 z) p l e s m args below meth c D cI cR b N0 S0 H locs ls X C hl) (fun z => hk _ _ _ _ (hs.2 z) p l e s m args below meth c D cI cR b N0 S0 H locs ls X C hl)
theorem xs_ifCond_ge (hk : ∀ pc L st h, k pc L st h → xAt lim g Q pc L st h) {n : Int} (hd : decode (sgB g) pc = .ok (.ifCond .ge n, len)) (hc : xck g (pc, .ifCond .ge n, len, lk) = true) (hs : xstep lim g k Q pc L st h (.ifCond .ge n) len lk) : xAt lim g Q pc L st h := by
  obtain ⟨t, t2, rfl, hs⟩ := xlf_el hs
  obtain ⟨x, r, rfl, hs⟩ := xpi_el hs
  obtain ⟨h1, h2⟩ := and_el hc
  have h2 := nb_eq h2
  subst h2
  have h1 : (pc : Int) + n = (t : Int) := of_decide_eq_true h1
  intro p l e s m args below meth c D cI cR b N0 S0 H locs ls X C hl
  exact lv_if_ge X.1 X.2.1 hd h1 (fun z => hk _ _ _ _ (hs.1 z) p l e s m args below meth c D cI cR b N0 S0 H locs ls X C hl) (fun z => hk _ _ _ _ (hs.2 z) p l e s m args below meth c D cI cR b N0 S0 H locs ls X C hl)
theorem xs_if_icmp_ge (hk : ∀ pc L st h, k pc L st h → xAt lim g Q pc L st h) {n : Int} (hd : decode (sgB g) pc = .ok (.if_icmp .ge n, len)) (hc : xck g (pc, .if_icmp .ge n, len, lk) = true) (hs : xstep lim g k Q pc L st h (.if_icmp .ge n) len lk) : xAt lim g Q pc L st h := by
  obtain ⟨t, t2, rfl, hs⟩ := xlf_el hs
  obtain ⟨y, r, rfl, hs⟩ := xpi_el hs
  obtain ⟨x, r, rfl, hs⟩ := xpi_el hs
  obtain ⟨h1, h2⟩ := and_el hc
  have h2 := nb_eq h2
  subst h2
  have h1 : (pc : Int) + n = (t : Int) := of_decide_eq_true h1
  intro p l e s m args below meth c D cI cR b N0 S0 H locs ls X C hl
  exact lv_icmp_ge X.1 X.2.1 hd h1 (fun z => hk _ _ _ _ (hs.1 z) p l e s m args below meth c D cI cR b N0 S0 H locs ls X C hl) (fun z => hk _ _ _ _ (hs.2 z) p l e s m args below meth c D cI cR b N0 S0 H locs ls X C hl)
theorem xs_ifCond_gt (hk : ∀ pc L st h, k pc L st h → xAt lim g Q pc L st h) {n : Int} (hd : decode (sgB g) pc = .ok (.ifCond .gt n, len)) (hc : xck g (pc, .ifCond .gt n, len, lk) = true) (hs : xstep lim g k Q pc L st h (.ifCond .gt n) len lk) : xAt lim g Q pc L st h := by
  obtain ⟨t, t2, rfl, hs⟩ := xlf_el hs
  obtain ⟨x, r, rfl, hs⟩ := xpi_el hs
  obtain ⟨h1, h2⟩ := and_el hc
  have h2 := nb_eq h2
  subst h2
  have h1 : (pc : Int) + n = (t : Int) := of_decide_eq_true h1
  intro p l e s m args below meth c D cI cR b N0 S0 H locs ls X C hl
  exact lv_if_gt X.1 X.2.1 hd h1 (fun z => hk _ _ _ _ (hs.1 z) p l e s m args below meth c D cI cR b N0 S0 H locs ls X C hl) (fun z => hk _ _ _ _ (hs.2 z) p l e s m args below meth c D cI cR b N0 S0 H locs ls X C hl)
theorem xs_if_icmp_gt (hk : ∀ pc L st h, k pc L st h → xAt lim g Q pc L st h) {n : Int} (hd : decode (sgB g) pc = .ok (.if_icmp .gt n, len)) (hc : xck g (pc, .if_icmp .gt n, len, lk) = true) (hs : xstep lim g k Q pc L st h (.if_icmp .gt n) len lk) : xAt lim g Q pc L st h := by
  obtain ⟨t, t2, rfl, hs⟩ := xlf_el hs
  obtain ⟨y, r, rfl, hs⟩ := xpi_el hs
  obtain ⟨x, r, rfl, hs⟩ := xpi_el hs
  obtain ⟨h1, h2⟩ := and_el hc
  have h2 := nb_eq h2
  subst h2
  have h1 : (pc : Int) + n = (t : Int) := of_decide_eq_true h1
  intro p l e s m args below meth c D cI cR b N0 S0 H locs ls X C hl
  exact lv_icmp_gt X.1 X.2.1 hd h1 (fun z => hk _ _ _ _ (hs.1 z) p l e s m args below meth c D cI cR b N0 S0 H locs ls X C hl) (fun z => hk _ _ _ _ (hs.2 z) p l e s m args below meth c D cI cR b N0 S0 H locs ls X C hl)
theorem xs_ifCond_le (hk : ∀ pc L st h, k pc L st h → xAt lim g Q pc L st h) {n : Int} (hd : decode (sgB g) pc = .ok (.ifCond .le n, len)) (hc : xck g (pc, .ifCond .le n, len, lk) = true) (hs : xstep lim g k Q pc L st h (.ifCond .le n) len lk) : xAt lim g Q pc L st h := by
  obtain ⟨t, t2, rfl, hs⟩ := xlf_el hs
  obtain ⟨x, r, rfl, hs⟩ := xpi_el hs
  obtain ⟨h1, h2⟩ := and_el hc
  have h2 := nb_eq h2
  subst h2
  have h1 : (pc : Int) + n = (t : Int) := of_decide_eq_true h1
  intro p l e s m args below meth c D cI cR b N0 S0 H locs ls X C hl
  exact lv_if_le X.1 X.2.1 hd h1 (fun z => hk _ _ _ _ (hs.1 z) p l e s m args below meth c D cI cR b N0 S0 H locs ls X C hl) (fun z => hk _ _ _ _ (hs.2 z) p l e s m args below meth c D cI cR b N0 S0 H locs ls X C hl)
theorem xs_if_icmp_le (hk : ∀ pc L st h, k pc L st h → xAt lim g Q pc L st h) {n : Int} (hd : decode (sgB g) pc = .ok (.if_icmp .le n, len)) (hc : xck g (pc, .if_icmp .le n, len, lk) = true) (hs : xstep lim g k Q pc L st h (.if_icmp .le n) len lk) : xAt lim g Q pc L st h := by
  obtain ⟨t, t2, rfl, hs⟩ := xlf_el hs
  obtain ⟨y, r, rfl, hs⟩ := xpi_el hs
  obtain ⟨x, r, rfl, hs⟩ := xpi_el hs
  obtain ⟨h1, h2⟩ := and_el hc
  have h2 := nb_eq h2
  subst h2
  have h1 : (pc : Int) + n = (t : Int) := of_decide_eq_true h1
  intro p l e s m args below meth c D cI cR b N0 S0 H locs ls X C hl
  exact lv_icmp_le X.1 X.2.1 hd h1 (fun z => hk _ _ _ _ (hs.1 z) p l e s m args below meth c D cI cR b N0 S0 H locs ls X C hl) (fun z => hk _ _ _ _ (hs.2 z) p l e s m args below meth c D cI cR b N0 S0 H locs ls X C hl)
theorem xs_goto (hk : ∀ pc L st h, k pc L st h → xAt lim g Q pc L st h) {n : Int} (hd : decode (sgB g) pc = .ok (.goto n, len)) (hc : xck g (pc, .goto n, len, lk) = true) (hs : xstep lim g k Q pc L st h (.goto n) len lk) : xAt lim g Q pc L st h := by
  obtain ⟨t, t2, rfl, hs⟩ := xlf_el hs
  obtain ⟨h1, h2⟩ := and_el hc
  have h2 := nb_eq h2
  subst h2
  exact xa_of (fun p l e R s m args below meth c H locs cells slots Qw ls b X hl kk => lv_goto X.1 X.2.1 hd (of_decide_eq_true h1) (kk ls hl)) (hk _ _ _ _ hs)
theorem xsw_el {pc d : Nat} {P : Nat → Prop} : ∀ {offs : List Int} {lo : Int} {ps : List (Int32 × Nat)} {x : Int32}, xswk pc offs lo ps = true → xsw ps x P d →
    (∃ (o : Int) (t : Nat), lo ≤ x.toInt ∧ x.toInt < lo + ps.length ∧ offs[(x.toInt - lo).toNat]? = some o ∧ (pc : Int) + o = (t : Int) ∧ P t) ∨ ((x.toInt < lo ∨ lo + ps.length ≤ x.toInt) ∧ P d)
  | offs, lo, [], x, hc, hs => by
    refine Or.inr ⟨?_, hs⟩
    simp only [List.length_nil]
    omega
  | [], lo, (v, t) :: r, x, hc, hs => by
    cases hc
  | o :: os, lo, (v, t) :: r, x, hc, hs => by
    unfold xswk at hc
    obtain ⟨h01, h2⟩ := and_el hc
    obtain ⟨h0, h1⟩ := and_el h01
    have h0 : v.toInt = lo := of_decide_eq_true h0
    have h1 : (pc : Int) + o = (t : Int) := of_decide_eq_true h1
    by_cases hx : x = v
    · subst hx
      refine Or.inl ⟨o, t, by omega, by simp only [List.length_cons]; omega, ?_, h1, hs.1 rfl⟩
      rw [h0, Int.sub_self]
      rfl
    · have hne : ¬ x.toInt = lo := fun q => hx (Int32.toInt_inj.mp (q.trans h0.symm))
      rcases xsw_el h2 (hs.2 hx) with ⟨o', t', g1, g2, g3, g4, g5⟩ | ⟨g1, g2⟩
      · refine Or.inl ⟨o', t', by omega, by simp only [List.length_cons]; omega, ?_, g4, g5⟩
        rw [show (x.toInt - lo).toNat = (x.toInt - (lo + 1)).toNat + 1 by omega]
        exact g3
      · refine Or.inr ⟨?_, g2⟩
        simp only [List.length_cons]
        omega
theorem xs_tableswitch (hk : ∀ pc L st h, k pc L st h → xAt lim g Q pc L st h) {n lo hi : Int} {offs : Array Int} (hd : decode (sgB g) pc = .ok (.tableswitch n lo hi offs, len)) (hc : xck g (pc, .tableswitch n lo hi offs, len, lk) = true) (hs : xstep lim g k Q pc L st h (.tableswitch n lo hi offs) len lk) : xAt lim g Q pc L st h := by
  replace hs : xtsw k L st h lk := hs
  unfold xtsw at hs
  split at hs
  next d ps =>
    obtain ⟨x, r, rfl, hs⟩ := xpi_el hs
    obtain ⟨h01, h2⟩ := and_el hc
    obtain ⟨h0, h1⟩ := and_el h01
    have h0 : (pc : Int) + n = (d : Int) := of_decide_eq_true h0
    have h2 : hi = lo + ps.length - 1 := of_decide_eq_true h2
    rcases xsw_el h1 hs with ⟨o, t, g1, g2, g3, g4, g5⟩ | ⟨g1, g2⟩
    · exact xa_of (fun p l e R s m args below meth c H locs cells slots Qw ls b X hl kk => lv_tableIn X.1 X.2.1 hd (by omega) (by omega) (by simpa using g3) g4 (kk ls hl)) (hk _ _ _ _ g5)
    · exact xa_of (fun p l e R s m args below meth c H locs cells slots Qw ls b X hl kk => lv_tableOut X.1 X.2.1 hd (by omega) h0 (kk ls hl)) (hk _ _ _ _ g2)
  · exact hs.elim
/-! the world -/
theorem xWd_one {D : va_G} {cI cR : ClassId} {b : xB} {H : Heap} {a : Nat} {e : xE} (hW : xWd D cI cR b h H) (ha : xat h a e) : va_P D xcl [(b.1 + a, xce cI cR b e)] H := by
  intro k q hq
  have hk : k < 1 := (List.getElem?_eq_some_iff.mp hq).1
  rw [show k = 0 by omega] at hq
  cases hq
  have := hW.2 a ha.1
  rw [ha.2] at this
  exact this
theorem xWd_put {D : va_G} {cI cR : ClassId} {b : xB} {H H1 : Heap} {a : Nat} {e : xE} (hW : xWd D cI cR b h H) (ha : a < h.1) (z : H1.size = H.size) (he : va_at D xcl (b.1 + a, xce cI cR b e) H1) (oq : ∀ q : Nat, q ≠ b.1 + a → H1[q]? = H[q]?) : xWd D cI cR b (xset h a e) H1 := by
  refine ⟨z.trans hW.1, fun k hk => ?_⟩
  show va_at D xcl (b.1 + k, xce cI cR b (va_up h.2.2 a e k)) H1
  by_cases hka : k = a
  · subst hka
    rw [va_up_self]
    exact he
  · rw [va_up_ne _ _ hka]
    exact (hW.2 k hk).kept (oq (b.1 + k) (by omega))
theorem xWd_new {D : va_G} {cI cR : ClassId} {b : xB} {n : Nat} {H H1 : Heap} {e : xE} (hW : xWd D cI cR b h H) (z : H1.size = H.size + 1) (he : va_at D xcl (b.1 + h.1, xce cI cR b e) H1) (oq : ∀ q : Nat, q < H.size → H1[q]? = H[q]?) : xWd D cI cR b (xnew h n e) H1 := by
  refine ⟨by rw [z, hW.1]; exact Nat.add_assoc _ _ _, fun k hk => ?_⟩
  have hk : k < h.1 + 1 := hk
  show va_at D xcl (b.1 + k, xce cI cR b (va_up h.2.2 h.1 e k)) H1
  by_cases hka : k = h.1
  · subst hka
    rw [va_up_self]
    exact he
  · rw [va_up_ne _ _ hka]
    exact (hW.2 k (by omega)).kept (oq (b.1 + k) (by rw [hW.1]; omega))
theorem xCx_put {D : va_G} {cI cR : ClassId} {b : xB} {N0 S0 : Nat} {s : State} {H H1 : Heap} {locs : List Loc} {a i : Nat} {e : xE} (C : xCx lim g D cI cR b N0 S0 s h H locs) (ha : a < h.1) (z : H1.size = H.size) (he : va_at D xcl (b.1 + a, xce cI cR b e) H1) (oq : ∀ q : Nat, q ≠ b.1 + a → H1[q]? = H[q]?) : xCx lim g D cI cR b N0 S0 s (xset h a e) H1 (locs ++ [⟨b.1 + a, i⟩]) := by
  obtain ⟨hK, hW, hS, r⟩ := C
  exact ⟨hK, xWd_put hW ha z he oq, hS.put z oq (Nat.le_add_right b.1 a), r⟩
theorem xCx_new {D : va_G} {cI cR : ClassId} {b : xB} {N0 S0 n : Nat} {s : State} {H H1 : Heap} {locs : List Loc} {e : xE} (C : xCx lim g D cI cR b N0 S0 s h H locs) (z : H1.size = H.size + 1) (he : va_at D xcl (b.1 + h.1, xce cI cR b e) H1) (oq : ∀ q : Nat, q < H.size → H1[q]? = H[q]?) (l1 : h.1 + 1 ≤ lim.1) (l2 : h.2.1 + n ≤ lim.2) : xCx lim g D cI cR b N0 S0 s (xnew h n e) H1 locs := by
  obtain ⟨hK, hW, hS, r1, r2, r3, r4, r5⟩ := C
  refine ⟨hK, xWd_new hW z he oq, ⟨by rw [z]; exact Nat.le_succ_of_le hS.1, fun q h1 h2 => (oq q (Nat.lt_of_lt_of_le h1 hS.1)).trans (hS.2.1 q h1 h2), hS.2.2⟩, r1, ?_, l1, ?_, l2⟩
  · show N0 ≤ h.1 + 1
    omega
  · show S0 ≤ h.2.1 + n
    omega
theorem xcl_in {ci : Nat} {r : vw_C} (hr : xcl[ci]? = some r) : xclP ci r := xcl_ok ci r hr
theorem xs_getfield (hk : ∀ pc L st h, k pc L st h → xAt lim g Q pc L st h) {n : Nat} (hd : decode (sgB g) pc = .ok (.getfield n, len)) (hc : xck g (pc, .getfield n, len, lk) = true) (hq : xlk g (pc, .getfield n, len, lk)) (hs : xstep lim g k Q pc L st h (.getfield n) len lk) : xAt lim g Q pc L st h := by
  obtain ⟨ci, fk, rfl, hs⟩ := xlf_el hs
  obtain ⟨a, r, rfl, fs, v, ha, hv, hs⟩ := xpr_el hs
  have h2 := nb_eq hc
  subst h2
  obtain ⟨rc, hrc, hfk, hlink⟩ := hq
  obtain ⟨C0, T, N⟩ := rc
  have hin := (xcl_in hrc).2.2.2.2.1
  intro p l e s m args below meth c D cI cR b N0 S0 H locs ls X C hl
  have hts : ∀ w ∈ lw_g, w.before args s = true := fun w hw => X.2.2.2.2.2.2.2 w (List.mem_cons_of_mem _ hw)
  exact va_get (ws := [(b.1 + a, xce cI cR b (xob ci fs))]) X.1 X.2.1 hts hin X.2.2.2.2.2.1 C.1.1 (xWd_one C.2.1 ha) 0 rfl hrc fk hfk (hts _ hlink) (fun _ h9 => h9) (by rw [List.getElem?_map, hv]; rfl) hd (hk _ _ _ _ hs p l e s m args below meth c D cI cR b N0 S0 H locs ls X C hl)
theorem x_put {p : Program} {l : Launch} {e : Env} {R : Room} {s : State} {m : MethodId} {args : Array Value} {below : List Frame} {meth : Method} {c : Code} {H : Heap} {locs : List Loc} {cells slots : Nat} {Qw : State → Prop} {D : va_G} {cI cR : ClassId} {b : xB} {n a ci fk : Nat} {fs rest : List Value} {v : Value} {ls : Array Slot}
    (X : xFix p s m args meth c g) (hK : va_K D xcl (xtys cI cR) s) (hW : xWd D cI cR b h H) (ha : xat h a (xob ci fs)) (hl : fk < fs.length) (hv : xvk (xfty ci fk) v = true) (hq : xfl (sgN g).cls n ci fk) (hd : decode (sgB g) pc = .ok (.putfield n, 3))
    (hfin : ∀ r, xcl[ci]? = some r → (r.2.1 fk).2.2.2 = true → meth.name = "<init>" ∧ r.1 = (sgN g).cls)
    (kk : ∀ (H1 : Heap) (i : Nat), H1.size = H.size → va_at D xcl (b.1 + a, xce cI cR b (xob ci (fs.set fk v))) H1 → (∀ q : Nat, q ≠ b.1 + a → H1[q]? = H[q]?) → W p l e R s m args below meth c H1 (locs ++ [⟨b.1 + a, i⟩]) cells slots Qw (F0 m (pc + 3) ls rest)) : W p l e R s m args below meth c H locs cells slots Qw (F0 m pc ls (xcv b v :: .ref (b.1 + a) :: rest)) := by
  obtain ⟨rc, hrc, hk, hlink⟩ := hq
  have hts : ∀ w ∈ lw_g, w.before args s = true := fun w hw => X.2.2.2.2.2.2.2 w (List.mem_cons_of_mem _ hw)
  obtain ⟨C0, T, N⟩ := rc
  obtain ⟨hty, hnm, hdecl, -, hin, -⟩ := xcl_in hrc
  have hown := X.2.2.2.2.2.1
  have hap := va_apart (own := (sgN g).cls) hts hin (xfty ci) hty hnm hK hrc
  have hat := hW.2 a ha.1
  rw [ha.2] at hat
  obtain ⟨r, h1, cell, q1, q2, q3, q4⟩ := hat
  have hr : r = (C0, T, N) := Option.some.inj (h1.symm.trans hrc)
  subst hr
  obtain ⟨hS, hfc, kC, hkC, hkind⟩ := hK.1 ci _ hrc
  obtain ⟨cf, kf, fi, f, hi, hsl⟩ := hS fk hk
  have hst := (u_facts hfc hkC (u_lays hts hin hk) hi).1
  obtain ⟨hn, hfit⟩ := xvk_ok b hv
  have fin : ∀ H' : Heap, H'[b.1 + a]? = some (cell.setSlot f.slot (xcv b v)) → H'.size = H.size → (∀ q, q ≠ b.1 + a → H'[q]? = H[q]?) → W p l e R s m args below meth c H' (locs ++ [⟨b.1 + a, f.slot⟩]) cells slots Qw (F0 m (pc + 3) ls rest) := by
    intro H' e1 e2 e3
    rw [hsl] at e1 ⊢
    refine kk H' _ e2 ⟨_, hrc, ?_⟩ e3
    have e0 : (fs.set fk v).map (xcv b) = (fs.map (xcv b)).set fk (xcv b v) := by rw [List.map_set]
    show t_OB (b.1 + a) (D.1 ci) N (D.2 ci) H' (vp_V ((fs.set fk v).map (xcv b)))
    rw [e0]
    exact t_OB.to (V := updV (vp_V (fs.map (xcv b))) fk (xcv b v)) ⟨_, e1, q2, q3, t_set q4 hap hk (xcv b v)⟩ (fun j _ => vp_updV_set (by rw [List.length_map]; exact hl) (xcv b v) j)
  have hlay := hts _ (hin _ (u_in_lay hk))
  unfold u_lay at hlay
  by_cases hf : (T fk).2.2.2 = true
  · rw [if_pos hf] at hlay
    obtain ⟨hin2, hcls⟩ := hfin _ hrc hf
    have hcls : C0 = (sgN g).cls := hcls
    have hcf : m.cls = cf := by
      obtain ⟨_, _, c', _, _, _, -, -, hf', -, -, -, hown2, -⟩ := Cond.laysFinal_spec hlay
      have e1 : c' = cf := by have := hi.symm.trans hf'; simp at this; exact this.1.symm
      have hd2 : (T fk).1 = C0 := hdecl fk hk
      rw [hd2, hcls] at hown2
      rw [← e1]; exact Option.some.inj (hown.symm.trans hown2)
    have h6 := u_fits hfc hkC hkind (Or.inr hlay) hi (hty fk hk) hn hfit
    exact W.putFinK X.1 X.2.1 hown (hts _ hlink) hi hst hcf hin2 (by rw [q2]; exact h6) q1 q3 (by rw [hsl]; exact k2_hasslot (q4 fk hk)) rfl rfl hd fin
  · rw [if_neg hf] at hlay
    have h6 := u_store hfc hkC hkind hlay hi (hty fk hk) hn hfit
    exact W.putK X.1 X.2.1 (f := f) ⟨hown, hts _ hlink, ⟨_, _, _, hi⟩, hst⟩ (by rw [q2]; exact h6) q1 q3 (by rw [hsl]; exact k2_hasslot (q4 fk hk)) rfl rfl hd fin
theorem xs_putfield (hk : ∀ pc L st h, k pc L st h → xAt lim g Q pc L st h) {n : Nat} (hd : decode (sgB g) pc = .ok (.putfield n, len)) (hc : xck g (pc, .putfield n, len, lk) = true) (hq : xlk g (pc, .putfield n, len, lk)) (hs : xstep lim g k Q pc L st h (.putfield n) len lk) : xAt lim g Q pc L st h := by
  obtain ⟨ci, fk, rfl, hs⟩ := xlf_el hs
  obtain ⟨v, r, rfl, hs⟩ := xp1_el hs
  obtain ⟨a, r, rfl, fs, ha, hl, hs⟩ := xpr_el hs
  obtain ⟨hv, hs⟩ := bif_el hs
  have h2 := nb_eq hc
  subst h2
  intro p l e s m args below meth c D cI cR b N0 S0 H locs ls X C hl0
  exact x_put X C.1.1 C.2.1 ha hl hv hq.1 hd (fun rc hrc hf => by
    obtain ⟨g1, g2⟩ := hq.2 rc hrc hf
    exact ⟨X.2.2.2.2.2.2.1.trans g1, g2⟩) (fun H1 i z he oq => hk _ _ _ _ hs p l e s m args below meth c D cI cR b N0 S0 H1 _ ls X (xCx_put C ha.1 z he oq) hl0)
theorem xs_iaload (hk : ∀ pc L st h, k pc L st h → xAt lim g Q pc L st h) (hd : decode (sgB g) pc = .ok (.iaload, len)) (hc : xck g (pc, .iaload, len, lk) = true) (hs : xstep lim g k Q pc L st h .iaload len lk) : xAt lim g Q pc L st h := by
  obtain ⟨i, r, rfl, hs⟩ := xpi_el hs
  obtain ⟨a, r, rfl, n, f, j, ha, hi, hs⟩ := xpr_el hs
  have h2 := nb_eq hc
  subst h2
  obtain ⟨hi1, hi2⟩ := xix_in hi
  subst hi2
  intro p l e s m args below meth c D cI cR b N0 S0 H locs ls X C hl
  exact va_iald (ws := [(b.1 + a, xce cI cR b (xia n f))]) X.1 X.2.1 C.1.1 (xWd_one C.2.1 ha) 0 0 rfl rfl hi1 hd (hk _ _ _ _ hs p l e s m args below meth c D cI cR b N0 S0 H locs ls X C hl)
theorem xs_arraylength (hk : ∀ pc L st h, k pc L st h → xAt lim g Q pc L st h) (hd : decode (sgB g) pc = .ok (.arraylength, len)) (hc : xck g (pc, .arraylength, len, lk) = true) (hs : xstep lim g k Q pc L st h .arraylength len lk) : xAt lim g Q pc L st h := by
  obtain ⟨a, r, rfl, n, f, ha, hs⟩ := xpr_el hs
  have h2 := nb_eq hc
  subst h2
  intro p l e s m args below meth c D cI cR b N0 S0 H locs ls X C hl
  exact va_alen (ws := [(b.1 + a, xce cI cR b (xia n f))]) (x := (n, .inl f)) X.1 X.2.1 C.1.1 (xWd_one C.2.1 ha) 0 0 rfl rfl rfl hd (hk _ _ _ _ hs p l e s m args below meth c D cI cR b N0 S0 H locs ls X C hl)
theorem xs_aaload (hk : ∀ pc L st h, k pc L st h → xAt lim g Q pc L st h) (hd : decode (sgB g) pc = .ok (.aaload, len)) (hc : xck g (pc, .aaload, len, lk) = true) (hs : xstep lim g k Q pc L st h .aaload len lk) : xAt lim g Q pc L st h := by
  obtain ⟨i, r, rfl, hs⟩ := xpi_el hs
  obtain ⟨a, r, rfl, n, f, j, q, ha, hi, hf, hs⟩ := xpr_el hs
  have h2 := nb_eq hc
  subst h2
  obtain ⟨hi1, hi2⟩ := xix_in hi
  subst hi2
  intro p l e s m args below meth c D cI cR b N0 S0 H locs ls X C hl
  refine va_aldq (ws := [(b.1 + a, xce cI cR b (xra n f))]) X.1 X.2.1 C.1.1 (xWd_one C.2.1 ha) 0 1 rfl rfl hi1 hd ?_
  have e1 : va_rf ((f i.toNatClampNeg).map (fun k => b.1 + k)) = .ref (b.1 + q) := by rw [hf]; rfl
  show W _ _ _ _ _ _ _ _ _ _ _ _ _ _ _ (F0 m (pc + 1) ls (va_rf ((f i.toNatClampNeg).map (fun k => b.1 + k)) :: _))
  rw [e1]
  exact hk _ _ _ _ hs p l e s m args below meth c D cI cR b N0 S0 H locs ls X C hl
theorem xs_iastore (hk : ∀ pc L st h, k pc L st h → xAt lim g Q pc L st h) (hd : decode (sgB g) pc = .ok (.iastore, len)) (hc : xck g (pc, .iastore, len, lk) = true) (hs : xstep lim g k Q pc L st h .iastore len lk) : xAt lim g Q pc L st h := by
  obtain ⟨x, r, rfl, hs⟩ := xpi_el hs
  obtain ⟨i, r, rfl, hs⟩ := xpi_el hs
  obtain ⟨a, r, rfl, n, f, j, ha, hi, hs⟩ := xpr_el hs
  have h2 := nb_eq hc
  subst h2
  obtain ⟨hi1, hi2⟩ := xix_in hi
  subst hi2
  intro p l e s m args below meth c D cI cR b N0 S0 H locs ls X C hl
  refine W.iast X.1 X.2.1 (xWd_one C.2.1 ha 0 _ rfl) ((C.1.1.2 0 _ rfl).1 n (fun j => .int (f j))) (fun q => by cases q) (by show ¬ (i < 0 ∨ (arrV _ _ _).slots.size ≤ _); rw [arrV_size]; exact hi1) rfl rfl hd fun H1 e1 z oq => ?_
  refine hk _ _ _ _ hs p l e s m args below meth c D cI cR b N0 S0 H1 _ ls X (xCx_put C ha.1 z ?_ oq) hl
  show H1[b.1 + a]? = some (vp_cell _ _)
  rw [e1]
  show some ((vp_cell cI (n, .inl f)).setSlot _ _) = some (vp_cell cI (n, .inl (upd f i.toNatClampNeg x)))
  rw [vp_cell_i, vp_cell_i, arrV_store]
  congr 2
  funext q
  by_cases hq : q = i.toNatClampNeg
  · subst hq
    simp [updV, upd]
  · simp [updV, upd, hq]
theorem xs_aastore (hk : ∀ pc L st h, k pc L st h → xAt lim g Q pc L st h) (hd : decode (sgB g) pc = .ok (.aastore, len)) (hc : xck g (pc, .aastore, len, lk) = true) (hs : xstep lim g k Q pc L st h .aastore len lk) : xAt lim g Q pc L st h := by
  obtain ⟨v, r, rfl, hs⟩ := xpr_el hs
  obtain ⟨i, r, rfl, hs⟩ := xpi_el hs
  obtain ⟨a, r, rfl, n, f, j, fs, ha, hi, hv, hs⟩ := xpr_el hs
  have h2 := nb_eq hc
  subst h2
  obtain ⟨hi1, hi2⟩ := xix_in hi
  subst hi2
  intro p l e s m args below meth c D cI cR b N0 S0 H locs ls X C hl
  have hlt : i.toNatClampNeg < n := hi.2.1
  have h0 : ¬ i < 0 := fun q => hi1 (Or.inl q)
  obtain ⟨r', hr', cellV, g1, g2, g3, -⟩ := xWd_one C.2.1 hv 0 _ rfl
  obtain ⟨rc, hrc, hrn⟩ := xrc_ok
  have hcls := (C.1.1.1 xrc rc hrc).2
  obtain ⟨kA, comp, k1, k2, k3, -⟩ := (C.1.1.2 1 _ rfl).2
  rw [hrn] at hcls
  have hcomp : comp = D.1 xrc := Option.some.inj (k3.symm.trans hcls.1)
  subst hcomp
  obtain ⟨kC, hkC, -⟩ := hcls.2
  refine W.aast X.1 X.2.1 (xWd_one C.2.1 ha 0 _ rfl) (fun q h => by cases h) (fun h => by cases h) k1 k2 rfl hkC ⟨h0, by show _ < (arrV _ _ _).slots.size; rw [arrV_size]; exact hlt⟩ g1 (fun q h => by rw [g3] at h; cases h) (by rw [g2]; exact hkC) (by rw [g2]; exact va_assign hcls) rfl rfl hd fun H1 e1 z oq => ?_
  refine hk _ _ _ _ hs p l e s m args below meth c D cI cR b N0 S0 H1 _ ls X (xCx_put C ha.1 z ?_ oq) hl
  show H1[b.1 + a]? = some (vp_cell _ _)
  rw [e1]
  show some ((vp_cell cR (n, .inr (.inr (.inr (.inr (fun j => (f j).map (fun k => b.1 + k))))))).setSlot _ _) = some (vp_cell cR (n, .inr (.inr (.inr (.inr (fun j => (va_up f i.toNatClampNeg (some v) j).map (fun k => b.1 + k)))))))
  rw [vp_cell_q, vp_cell_q, arrV_store]
  congr 2
  funext q
  by_cases hq : q = i.toNatClampNeg
  · subst hq
    simp [updV, va_up, va_rf]
  · simp [updV, va_up, hq]

theorem xnI_nn {j : Nat} (hj : j < 100000) : ¬ nI j < 0 ∧ (nI j).toNatClampNeg = j := ⟨nI_pos (by omega), nI_clamp (by omega)⟩
theorem xs_newarray (hk : ∀ pc L st h, k pc L st h → xAt lim g Q pc L st h) {ty : ArrayType} (hd : decode (sgB g) pc = .ok (.newarray ty, len)) (hc : xck g (pc, .newarray ty, len, lk) = true) (hq : xlk g (pc, .newarray ty, len, lk)) (hs : xstep lim g k Q pc L st h (.newarray ty) len lk) : xAt lim g Q pc L st h := by
  obtain ⟨i, r, rfl, j, rfl, hj, l1, l2, hs2⟩ := xpi_el hs
  clear hs
  have h2 := nb_eq hc
  subst h2
  obtain ⟨rfl, hac⟩ : ty = .int ∧ Cond.arrayClass .int ∈ lw_g := by
    cases ty <;> first | exact hq.elim | exact ⟨rfl, hq⟩
  obtain ⟨hn, hN⟩ := xnI_nn hj
  intro p l e s m args below meth c D cI cR b N0 S0 H locs ls X C hl
  have hts : ∀ w ∈ lw_g, w.before args s = true := fun w hw => X.2.2.2.2.2.2.2 w (List.mem_cons_of_mem _ hw)
  refine va_newaK (atype := .int) X.1 X.2.1 (hts _ hac) (g := F0 m pc ls (.int (nI j) :: r.map (xcv b))) rfl hd rfl hn hN (by show j * 4 ≤ 536870912; omega) ?_ ?_ rfl fun H1 cA e1 z1 o1 hAr hNm => ?_
  · show h.1 - N0 + 1 ≤ lim.1 - N0
    have := C.2.2.2.2.1; omega
  · show h.2.1 - S0 + j ≤ lim.2 - S0
    have := C.2.2.2.2.2.2.1; omega
  · have hcA : cA = cI := by
      have h9 : s.vm.findClass ("[" ++ (FieldType.int).toString) = some cI := (C.1.1.2 0 _ rfl).2
      exact Option.some.inj (hNm.symm.trans h9)
    subst hcA
    have C1 : xCx lim g D cA cR b N0 S0 s (xnew h j (xia j (fun _ => 0))) H1 locs := xCx_new C z1 (by
      show H1[b.1 + h.1]? = some (vp_cell _ _)
      rw [← C.2.1.1]
      exact e1) o1 l1 l2
    have k1 := hk _ _ _ _ hs2 p l e s m args below meth c D cA cR b N0 S0 H1 locs ls X C1 hl
    have := C.2.2.2.2.1
    have := C.2.2.2.2.2.2.1
    refine W.cs (show h.1 - N0 + 1 = h.1 + 1 - N0 by omega) (show h.2.1 - S0 + j = h.2.1 + j - S0 by omega) ?_
    have e2 : H.size = b.1 + h.1 := C.2.1.1
    rw [e2]
    exact k1
theorem xs_anewarray (hk : ∀ pc L st h, k pc L st h → xAt lim g Q pc L st h) {n : Nat} (hd : decode (sgB g) pc = .ok (.anewarray n, len)) (hc : xck g (pc, .anewarray n, len, lk) = true) (hq : xlk g (pc, .anewarray n, len, lk)) (hs : xstep lim g k Q pc L st h (.anewarray n) len lk) : xAt lim g Q pc L st h := by
  obtain ⟨i, r, rfl, j, rfl, hj, l1, l2, hs⟩ := xpi_el hs
  have h2 := nb_eq hc
  subst h2
  have hq : Cond.classLink (sgN g).cls n xrn ∈ lw_g := by
    exact hq
  obtain ⟨hn, hN⟩ := xnI_nn hj
  intro p l e s m args below meth c D cI cR b N0 S0 H locs ls X C hl
  have hts : ∀ w ∈ lw_g, w.before args s = true := fun w hw => X.2.2.2.2.2.2.2 w (List.mem_cons_of_mem _ hw)
  refine W.anew X.1 X.2.1 X.2.2.2.2.2.1 (hts _ hq) (va_AO.use C.1.2) (g := F0 m pc ls (.int (nI j) :: r.map (xcv b))) rfl hd rfl hn (by rw [hN]; omega) ?_ ?_ fun cA kA comp f1 f2 f3 f4 => ?_
  · show h.1 - N0 + 1 ≤ lim.1 - N0
    have := C.2.2.2.2.1; omega
  · show h.2.1 - S0 + (nI j).toNatClampNeg ≤ lim.2 - S0
    rw [hN]
    have := C.2.2.2.2.2.2.1; omega
  · rw [hN]
    have hcA : cA = cR := by
      obtain ⟨_, _, -, -, -, h9⟩ := (C.1.1.2 1 _ rfl).2
      exact Option.some.inj (f1.symm.trans h9)
    subst hcA
    generalize hH1 : H.push ({ cls := cA, slots := Array.replicate j .null, vm := .none } : Cell) = H1
    have z1 : H1.size = H.size + 1 := by rw [← hH1, Array.size_push]
    have e1 : H1[H.size]? = some (arrV cA j (fun _ => .null)) := by rw [← hH1, Array.getElem?_push_size, ← arrV_new]
    have o1 : ∀ q : Nat, q < H.size → H1[q]? = H[q]? := fun q hq => by rw [← hH1, Array.getElem?_push, if_neg (Nat.ne_of_lt hq)]
    have C1 : xCx lim g D cI cA b N0 S0 s (xnew h j (xra j (fun _ => none))) H1 locs := xCx_new C z1 (by
      show H1[b.1 + h.1]? = some (vp_cell _ _)
      rw [← C.2.1.1]
      exact e1) o1 l1 l2
    have k1 := hk _ _ _ _ hs p l e s m args below meth c D cI cA b N0 S0 H1 locs ls X C1 hl
    have := C.2.2.2.2.1
    have := C.2.2.2.2.2.2.1
    refine W.cs (show h.1 - N0 + 1 = h.1 + 1 - N0 by omega) (show h.2.1 - S0 + j = h.2.1 + j - S0 by omega) ?_
    have e2 : H.size = b.1 + h.1 := C.2.1.1
    rw [e2]
    exact k1
theorem xs_new (hk : ∀ pc L st h, k pc L st h → xAt lim g Q pc L st h) {n : Nat} (hd : decode (sgB g) pc = .ok (.new n, len)) (hc : xck g (pc, .new n, len, lk) = true) (hq : xlk g (pc, .new n, len, lk)) (hs : xstep lim g k Q pc L st h (.new n) len lk) : xAt lim g Q pc L st h := by
  obtain ⟨ci, nn, rfl, l1, l2, hs⟩ := xlf_el hs
  have h2 := nb_eq hc
  subst h2
  obtain ⟨rc, hrc, hnn, q1, q2, q3⟩ := hq
  subst hnn
  obtain ⟨C0, T, N⟩ := rc
  obtain ⟨hty, -, -, hdef, hin, hcv⟩ := xcl_in hrc
  intro p l e s m args below meth c D cI cR b N0 S0 H locs ls X C hl
  have hts : ∀ w ∈ lw_g, w.before args s = true := fun w hw => X.2.2.2.2.2.2.2 w (List.mem_cons_of_mem _ hw)
  have hKn := C.1.1.1 ci _ hrc
  refine W.newcK X.1 X.2.1 X.2.2.2.2.2.1 (hts _ q1) (hts _ q2) (hts _ q3) (g := F0 m pc ls (st.map (xcv b))) rfl hd ?_ ?_ hKn.2.1 rfl fun H1 kC hkC e1 z1 o1 => ?_
  · show h.1 - N0 + 1 ≤ lim.1 - N0
    have := C.2.2.2.2.1; omega
  · show h.2.1 - S0 + N ≤ lim.2 - S0
    have l2 : h.2.1 + N ≤ lim.2 := l2
    have := C.2.2.2.2.2.2.1; omega
  · have C1 : xCx lim g D cI cR b N0 S0 s (xnew h N (xob ci (xdef ci))) H1 locs := xCx_new C z1 (by
      refine ⟨_, hrc, ?_⟩
      show t_OB (b.1 + h.1) (D.1 ci) N (D.2 ci) H1 (vp_V ((xdef ci).map (xcv b)))
      rw [hcv, ← C.2.1.1]
      exact (u_born (xfty ci) hts hin hKn hkC e1 hty).to hdef) o1 l1 l2
    have k1 := hk _ _ _ _ hs p l e s m args below meth c D cI cR b N0 S0 H1 locs ls X C1 hl
    have := C.2.2.2.2.1
    have := C.2.2.2.2.2.2.1
    refine W.cs (show h.1 - N0 + 1 = h.1 + 1 - N0 by omega) (show h.2.1 - S0 + N = h.2.1 + N - S0 by omega) ?_
    have e2 : H.size = b.1 + h.1 := C.2.1.1
    rw [e2]
    exact k1
/-! calls -/
theorem xgood {ws : List Cond} (hw : ∀ w ∈ ws, w ∈ lw_g) : GoodIn (xwd g) ws := fun w h => ⟨List.mem_cons_of_mem _ (hw w h), good_of_word (List.all_eq_true.mp lw_all w (hw w h))⟩
theorem xwd_in {c : xSig} (hm : xmc c) : ∀ w ∈ xwd c, w ∈ lw_g := fun w h => (List.mem_cons.mp h).elim (fun e => e ▸ hm.2.1) id
theorem x_after {p : Program} {l : Launch} {e : Env} {R : Room} {s : State} {m : MethodId} {args : Array Value} {below : List Frame} {meth : Method} {c : Code} {H : Heap} {locs : List Loc} {cells slots mc ms : Nat} {Qw : State → Prop} {D : va_G} {cI cR : ClassId} {b : xB} {rest st0 : List Value} {P : Option Value → xHp → Prop} {ls : Array Slot} {a : Array Value} {H0 : Heap}
    (hr : va_Run p l e R s m args below meth c H locs cells slots mc ms (F0 m pc ls st0) rest (xQ D cI cR b P a) (fun q => b.1 ≤ q)) (hS : va_S (fun q => b.1 ≤ q) H0 H locs)
    (kk : ∀ (v : Option Value) (h' : xHp) (H1 : Heap) (locs1 : List Loc), P v h' → xWd D cI cR b h' H1 → va_S (fun q => b.1 ≤ q) H0 H1 locs1 → W p l e R s m args below meth c H1 locs1 (cells + mc) (slots + ms) Qw (F0 m (pc + 3) ls ((v.map (xcv b)).toList ++ rest))) : W p l e R s m args below meth c H locs cells slots Qw (F0 m pc ls st0) := by
  intro T hT X
  obtain ⟨v', st₀, t, T', L, h0, X', hL, e1, e2, ⟨v, h', hP, hv, hw, hkk, hz, hf⟩, st⟩ := hr T hT X
  have hv := Outcome.returned.inj hv
  subst hv
  rw [h0] at hz hf
  obtain ⟨t2, a1, b1⟩ := kk v h' T'.heap (locs ++ L) hP (by rw [e1]; exact hw) ⟨by rw [e1]; exact Nat.le_trans hS.1 hz, fun q h1 h2 => by rw [e1, hf q (Nat.lt_of_lt_of_le h1 hS.1) h2]; exact hS.2.1 q h1 h2, fun q hq => by
      rcases List.mem_append.mp hq with h | h
      · exact hS.2.2 q h
      · exact hL q h⟩ T' rfl X'
  exact ⟨t2, st t2 a1, b1⟩
theorem xcaR_el {c : xSig} {As : List Value} {kf : List Value → xHp → Prop} (hs : xcaR c As h kf) : ∃ P : Option Value → xHp → Prop, SpecR c As h P ∧ ∀ v h', P v h' → kf v.toList h' := by
  unfold xcaR at hs
  split at hs
  next hr =>
    obtain ⟨P, h1, h2⟩ := hs
    refine ⟨P, h1, fun v h' hP => ?_⟩
    have h3 := (h1.2.1 v h' hP).1
    rw [hr] at h3
    cases h3
    exact h2 h' hP
  next hr =>
    obtain ⟨P, h1, h2⟩ := hs
    refine ⟨P, h1, fun v h' hP => ?_⟩
    have h3 := (h1.2.1 v h' hP).1
    rw [hr] at h3
    obtain ⟨x, rfl⟩ := h3
    exact h2 x h' hP
  next t hne hr =>
    obtain ⟨P, h1, h2⟩ := hs
    refine ⟨P, h1, fun v h' hP => ?_⟩
    have h3 := (h1.2.1 v h' hP).1
    rw [hr] at h3
    have h4 : ∃ x, v = some (.int x) := by
      unfold xtym at h3
      split at h3
      next q => cases q
      next q => cases q; exact absurd rfl hne
      · exact h3
    obtain ⟨x, rfl⟩ := h4
    exact h2 x h' hP
theorem xcal_el {lim : Nat × Nat} {c : xSig} {As : List Value} {kf : List Value → xHp → Prop} (hs : xcal lim c As h kf) (l1 : h.1 ≤ lim.1) (l2 : h.2.1 ≤ lim.2) : ∃ mc ms, ∃ P : Option Value → xHp → Prop, SpecN c As h mc ms P ∧ h.1 + mc ≤ lim.1 ∧ h.2.1 + ms ≤ lim.2 ∧ ∀ v h', P v h' → kf v.toList h' := by
  rcases hs with hs | hs
  · obtain ⟨P, h1, h2⟩ := xcaR_el hs
    exact ⟨0, 0, P, h1.toN, l1, l2, h2⟩
  · exact hs
theorem xSc.to {lim : Nat × Nat} {g : xSig} {D : va_G} {cI cR : ClassId} {b : xB} {N0 S0 : Nat} {s U : State} {H : Heap} {locs : List Loc} (C : xCx lim g D cI cR b N0 S0 s h H locs) (hU : U.heap = H) (hvm : s.vm.Alike U.vm) : xSc b U U.heap := by
  obtain ⟨-, -, hS, ⟨hb, h1, L, xs, h2, h3⟩, -⟩ := C
  refine ⟨h1, L, xs, (h2.kept ?_).moved hvm, h3⟩
  rw [hU]
  exact hS.2.1 b.2 (by omega) (Nat.not_le.mpr h1)
theorem x_blind {D : va_G} {cI cR : ClassId} {b : xB} {av : List Value} : FrameBlind (va_Pc av (fun U => xWd D cI cR b h U.heap ∧ xKk D cI cR U ∧ xSc b U U.heap)) := fun a U g mk q => ⟨q.1, q.2.1, xKk.moved (u := U) (U := U.calling g mk a) (Vm.Alike.refl U.vm) q.2.2.1, by
  obtain ⟨h1, L, xs, h2, h3⟩ := q.2.2.2
  exact ⟨h1, L, xs, va_X.moved (u := U) (U := U.calling g mk a) (Vm.Alike.refl U.vm) h2, h3⟩⟩
theorem x_ok8 {r : List Value} {m : MethodId} {ls : Array Slot} {st0 : List Value} (b : xB) (h8 : Nat.ble (xcats r) 8 = true) : 2 * (F0 m pc ls st0).monitorRoom + ((r.map (xcv b)).map fun v => v.category).sum ≤ 8 := by
  rw [xcats_eq]
  have := Nat.le_of_ble_eq_true h8
  show 2 * 0 + _ ≤ 8
  omega
theorem x_map {v : Option Value} {r : List Value} (b : xB) : (v.map (xcv b)).toList ++ r.map (xcv b) = (v.toList ++ r).map (xcv b) := by cases v <;> rfl
theorem xCx_putL {D : va_G} {cI cR : ClassId} {b : xB} {N0 S0 : Nat} {s : State} {H H1 : Heap} {locs L : List Loc} {a : Nat} {e : xE} (C : xCx lim g D cI cR b N0 S0 s h H locs) (ha : a < h.1) (z : H1.size = H.size) (he : va_at D xcl (b.1 + a, xce cI cR b e) H1) (oq : ∀ q : Nat, q ≠ b.1 + a → H1[q]? = H[q]?) (hL : ∀ q ∈ L, q.base = b.1 + a) : xCx lim g D cI cR b N0 S0 s (xset h a e) H1 (locs ++ L) := by
  obtain ⟨hK, hW, hS, r⟩ := C
  refine ⟨hK, xWd_put hW ha z he oq, ⟨by rw [z]; exact hS.1, fun q h1 h2 => ?_, fun q hq => ?_⟩, r⟩
  · rw [oq q (fun e => h2 (by rw [e]; exact Nat.le_add_right b.1 a))]
    exact hS.2.1 q h1 h2
  · rcases List.mem_append.mp hq with h3 | h3
    · exact hS.2.2 q h3
    · show b.1 ≤ q.base
      rw [hL q h3]
      exact Nat.le_add_right b.1 a
theorem x_copy {p : Program} {l : Launch} {e : Env} {R : Room} {s : State} {m : MethodId} {args : Array Value} {below : List Frame} {meth : Method} {c : Code} {H : Heap} {locs : List Loc} {cells slots : Nat} {Qw : State → Prop} {D : va_G} {cI cR : ClassId} {b : xB} {n a a0 n0 n1 jn jd js : Nat} {f f1 : Nat → Int32} {rest : List Value} {ls : Array Slot}
    (X : xFix p s m args meth c g) (hK : va_K D xcl (xtys cI cR) s) (hW : xWd D cI cR b h H) (ha0 : xat h a0 (xia n0 f)) (ha : xat h a (xia n1 f1)) (b1 : js + jn ≤ n0) (b2 : jd + jn ≤ n1) (b3 : n0 < 100000) (b4 : n1 < 100000) (hls : c.maxLocals = ls.size) (hfr : 1 ≤ R.frames) (hlo : (rest.map fun v => v.category).sum + xcpw ≤ R.locals)
    (hq : Cond.methodLink (sgN g).cls n arraycopyName ∈ lw_g ∧ Cond.native arraycopyName ∈ lw_g ∧ Cond.static arraycopyName ∈ lw_g ∧ Cond.initialized "java/lang/System" ∈ lw_g) (hd : decode (sgB g) pc = .ok (.invokestatic n, 3))
    (kk : ∀ (H1 : Heap) (L : List Loc), H1.size = H.size → va_at D xcl (b.1 + a, xce cI cR b (xia n1 (va_cpy f f1 js jd jn))) H1 → (∀ q : Nat, q ≠ b.1 + a → H1[q]? = H[q]?) → (∀ q ∈ L, q.base = b.1 + a) → W p l e R s m args below meth c H1 (locs ++ L) cells slots Qw (F0 m (pc + 3) ls rest)) : W p l e R s m args below meth c H locs cells slots Qw (F0 m pc ls (.int (nI jn) :: .int (nI jd) :: .ref (b.1 + a) :: .int (nI js) :: .ref (b.1 + a0) :: rest)) := by
  have hts : ∀ w ∈ lw_g, w.before args s = true := fun w hw => X.2.2.2.2.2.2.2 w (List.mem_cons_of_mem _ hw)
  have nn : ∀ z : Nat, z < 100000 → (nI z).toInt = (z : Int) := fun z hz => nI_toInt (by omega)
  have cl : ∀ z : Nat, z < 100000 → (nI z).toNatClampNeg = z := fun z hz => nI_clamp (by omega)
  have ps : ∀ z : Nat, z < 100000 → ¬ nI z < 0 := fun z hz => nI_pos (by omega)
  have jn9 : jn < 100000 := by omega
  have jd9 : jd < 100000 := by omega
  have js9 : js < 100000 := by omega
  intro T hT X0
  have hc0 : H[b.1 + a0]? = some (vp_cell cI (n0, .inl f)) := xWd_one hW ha0 0 _ rfl
  have hc1 : H[b.1 + a]? = some (vp_cell cI (n1, .inl f1)) := xWd_one hW ha 0 _ rfl
  obtain ⟨-, k0, hk0, cm0, hkk0⟩ := (hK.2 0 _ rfl).1 n0 (fun j => .int (f j))
  obtain ⟨-, k1, hk1, cm1, hkk1⟩ := (hK.2 0 _ rfl).1 n1 (fun j => .int (f1 j))
  obtain ⟨vm', X', step⟩ := X0.arraycopy X.1 X.2.2.2.2.2.1 (hts _ hq.1) (hts _ hq.2.1) (hts _ hq.2.2.1) (hts _ hq.2.2.2) (src := b.1 + a0) (dst := b.1 + a) (cs := vp_cell cI (n0, .inl f)) (cd := vp_cell cI (n1, .inl f1)) (srcPos := nI js) (destPos := nI jd) (n := nI jn) (by rw [hT]; exact hc0) (by rw [hT]; exact hc1)
    (fun _ h => by cases h) (fun _ h => by cases h) (fun h => by cases h) (fun h => by cases h) hk0 hk1 hkk0 hkk1 (by simp [refKind]) (ps _ js9) (ps _ jd9) (ps _ jn9)
    (by rw [nn _ js9, nn _ jn9]; show ¬ _ > ((arrV cI n0 (fun j => .int (f j))).slots.size : Int); rw [arrV_size]; omega)
    (by rw [nn _ jd9, nn _ jn9]; show ¬ _ > ((arrV cI n1 (fun j => .int (f1 j))).slots.size : Int); rw [arrV_size]; omega)
    (fun vm₁ _ i hi => by
      have e0 : (vp_cell cI (n0, .inl f)).slots.getD ((nI js).toNatClampNeg + i) .null = .int (f (js + i)) := by
        rw [cl _ jn9] at hi
        show (arrV cI n0 (fun j => .int (f j))).slots.getD _ _ = _
        rw [cl _ js9, Array.getD_eq_getD_getElem?, arrV_read _ _ (by omega)]
        rfl
      refine ⟨?_, ?_⟩
      · rw [e0]
        rfl
      · rw [e0]
        exact trivial)
    (g := F0 m pc ls (.int (nI jn) :: .int (nI jd) :: .ref (b.1 + a) :: .int (nI js) :: .ref (b.1 + a0) :: rest)) rfl (by rw [hls]) (rest := rest) rfl (by rw [X.2.1]; exact hd) hfr (by show 2 * 0 + _ + xcpw ≤ _; omega)
  have e1 : copied (vp_cell cI (n0, .inl f)) (vp_cell cI (n1, .inl f1)) (nI js) (nI jd) (nI jn) = vp_cell cI (n1, .inl (va_cpy f f1 js jd jn)) := by
    have e9 := va_copied (fun z => .int z) cI cI (n0 := n0) (n1 := n1) (sp := js) (dp := jd) (n := jn) f f1 b1
    unfold copied
    rw [cl _ jn9, cl _ jd9, cl _ js9]
    exact e9
  rw [e1] at X' step
  have hl : b.1 + a < H.size := (Array.getElem?_eq_some_iff.mp hc1).1
  have hheap : ((T.setVm vm').setCell (b.1 + a) (vp_cell cI (n1, .inl (va_cpy f f1 js jd jn)))).heap = H.setIfInBounds (b.1 + a) (vp_cell cI (n1, .inl (va_cpy f f1 js jd jn))) := by rw [← hT]; rfl
  obtain ⟨t, a1, b1⟩ := kk (H.setIfInBounds (b.1 + a) (vp_cell cI (n1, .inl (va_cpy f f1 js jd jn)))) _ (by simp) (show (H.setIfInBounds (b.1 + a) _)[b.1 + a]? = some _ by simp [Array.getElem?_setIfInBounds, hl]) (fun q hq => by simp [Array.getElem?_setIfInBounds, Ne.symm hq]) (fun q hq => by
    obtain ⟨z, -, hz⟩ := List.mem_map.mp hq
    rw [← hz]) _ hheap X'
  exact ⟨t, step t a1, b1⟩
theorem xs_invokestatic (hk : ∀ pc L st h, k pc L st h → xAt lim g Q pc L st h) {n : Nat} (hd : decode (sgB g) pc = .ok (.invokestatic n, len)) (hc : xck g (pc, .invokestatic n, len, lk) = true) (hq : xlk g (pc, .invokestatic n, len, lk)) (hs : xstep lim g k Q pc L st h (.invokestatic n) len lk) : xAt lim g Q pc L st h := by
  replace hs : xist lim k pc len L st h lk := hs
  unfold xist at hs
  split at hs
  next c0 =>
    split at hs
    next As r hpop =>
      obtain ⟨h8, hs⟩ := bif_el hs
      obtain ⟨h1, h2⟩ := and_el hc
      have h2 := nb_eq h2
      subst h2
      obtain ⟨hfr, hlo⟩ := and_el h1
      have hfr := Nat.le_of_ble_eq_true hfr
      have hlo := Nat.le_of_ble_eq_true hlo
      obtain ⟨hlink, hmc, hstat⟩ := hq
      obtain ⟨B, hB, hst, hlen⟩ := xpop_el hpop
      rw [List.append_nil] at hB
      subst hB
      intro p l e s m args below meth c D cI cR b N0 S0 H locs ls X C hl
      obtain ⟨mc, ms, P, hsp, l1, l2, hs⟩ := xcal_el hs C.2.2.2.2.2.1 C.2.2.2.2.2.2.2
      obtain ⟨-, hPt, hM⟩ := hsp
      have hM := hM l D cI cR b
      have hts := X.2.2.2.2.2.2.2
      refine x_after (va_runS (As := As.map (xcv b)) (rest := r.map (xcv b)) ⟨X.1, X.2.1, X.2.2.2.2.1, X.2.2.2.2.2.1, hts⟩ hM (va_cwS (sgP c0) hts (xgood (fun w hw => ?_)) rfl rfl rfl ⟨hmc.2.2.1, hmc.2.2.2.1, hmc.2.2.2.2⟩ ⟨hfr, hlo⟩) ⟨x_blind, fun U hU hW => ⟨rfl, by rw [hU]; exact C.2.1, xKk.moved hW.alike C.1, xSc.to C hU hW.alike⟩⟩ rfl (by rw [List.length_map]; exact hlen) hl.1 (by rw [hst]; simp) (x_ok8 b h8) hd ?_) C.2.2.1 fun v h' H1 locs1 hP hW1 hS1 => ?_
      · rcases List.mem_append.mp hw with hw | hw
        · rcases List.mem_cons.mp hw with hw | hw
          · rw [hw]; exact hlink
          · rcases List.mem_cons.mp hw with hw | hw
            · rw [hw]; exact hstat
            · rw [List.mem_singleton.mp hw]; exact hmc.1
        · exact xwd_in hmc w hw
      · have := C.2.2.2.2
        show h.1 - N0 + mc ≤ lim.1 - N0 ∧ h.2.1 - S0 + ms ≤ lim.2 - S0
        omega
      · obtain ⟨-, g3, g4⟩ := hPt v h' hP
        rw [x_map]
        have := C.2.2.2.2
        refine W.cs (show h.1 - N0 + mc = h'.1 - N0 by omega) (show h.2.1 - S0 + ms = h'.2.1 - S0 by omega) ?_
        exact hk _ _ _ _ (hs v h' hP) p l e s m args below meth c D cI cR b N0 S0 H1 locs1 ls X ⟨C.1, hW1, hS1, C.2.2.2.1, by omega⟩ hl
    · exact hs.elim
  next q =>
    obtain ⟨n9, r1, e1, hs1⟩ := xpi_el hs
    obtain ⟨dp, r2, e2, hs2⟩ := xpi_el hs1
    obtain ⟨a, r3, e3, hs3⟩ := xpr_el hs2
    obtain ⟨sp, r4, e4, hs4⟩ := xpi_el hs3
    obtain ⟨a0, r, e5, hs5⟩ := xpr_el hs4
    clear hs hs1 hs2 hs3 hs4
    subst e1 e2 e3 e4 e5
    obtain ⟨h8, n0, f, n1, f1, jn, jd, js, ha0, ha, rfl, rfl, rfl, b1, b2, b3, b4, hs⟩ := bif_el hs5
    clear hs5
    obtain ⟨h1, h2⟩ := and_el hc
    have h2 := nb_eq h2
    subst h2
    obtain ⟨hfr, hlo⟩ := and_el h1
    have hfr := Nat.le_of_ble_eq_true hfr
    have hlo := Nat.le_of_ble_eq_true hlo
    intro p l e s m args below meth c D cI cR b N0 S0 H locs ls X C hl0
    have h9 := Nat.le_of_ble_eq_true h8
    exact x_copy X C.1.1 C.2.1 ha0 ha b1 b2 b3 b4 (X.2.2.2.2.1.trans hl0.1.symm) hfr (by rw [xcats_eq]; exact Nat.le_trans (Nat.add_le_add_right h9 _) hlo) hq hd (fun H1 L9 z he oq hL => hk _ _ _ _ hs p l e s m args below meth c D cI cR b N0 S0 H1 _ ls X (xCx_putL C ha.1 z he oq hL) hl0)
  next ps =>
    obtain ⟨y, r1, e1, hs1⟩ := xpi_el hs
    obtain ⟨x, r, e2, hs2⟩ := xpi_el hs1
    clear hs hs1
    subst e1 e2
    obtain ⟨h8, hs⟩ := bif_el hs2
    clear hs2
    obtain ⟨h1, h2⟩ := and_el hc
    have h2 := nb_eq h2
    subst h2
    obtain ⟨hfr, hlo⟩ := and_el h1
    have hfr := Nat.le_of_ble_eq_true hfr
    have hlo := Nat.le_of_ble_eq_true hlo
    obtain ⟨q1, q2, q3, q4⟩ := hq
    intro p l e s m args below meth c D cI cR b N0 S0 H locs ls X C hl
    have hts : ∀ w ∈ lw_g, w.before args s = true := fun w hw => X.2.2.2.2.2.2.2 w (List.mem_cons_of_mem _ hw)
    have h9 := Nat.le_of_ble_eq_true h8
    have c5 := C.2.2.2.2
    exact va_mmax X.1 X.2.1 (X.2.2.2.2.1.trans hl.1.symm) X.2.2.2.2.2.1 (hts _ q1) (hts _ q2) (hts _ q3) (hts _ q4) hfr (by rw [xcats_eq]; exact Nat.le_trans (Nat.add_le_add_right h9 13) (Nat.le_trans (by decide) hlo)) (by show h.1 - N0 ≤ lim.1 - N0; omega) (by show h.2.1 - S0 ≤ lim.2 - S0; omega) hd (hk _ _ _ _ hs p l e s m args below meth c D cI cR b N0 S0 H locs ls X C hl)
  next ps =>
    obtain ⟨y, r1, e1, hs1⟩ := xpi_el hs
    obtain ⟨x, r, e2, hs2⟩ := xpi_el hs1
    clear hs hs1
    subst e1 e2
    obtain ⟨h8, hs⟩ := bif_el hs2
    clear hs2
    obtain ⟨h1, h2⟩ := and_el hc
    have h2 := nb_eq h2
    subst h2
    obtain ⟨hfr, hlo⟩ := and_el h1
    have hfr := Nat.le_of_ble_eq_true hfr
    have hlo := Nat.le_of_ble_eq_true hlo
    obtain ⟨q1, q2, q3, q4⟩ := hq
    intro p l e s m args below meth c D cI cR b N0 S0 H locs ls X C hl
    have hts : ∀ w ∈ lw_g, w.before args s = true := fun w hw => X.2.2.2.2.2.2.2 w (List.mem_cons_of_mem _ hw)
    have h9 := Nat.le_of_ble_eq_true h8
    have c5 := C.2.2.2.2
    exact va_mmin X.1 X.2.1 (X.2.2.2.2.1.trans hl.1.symm) X.2.2.2.2.2.1 (hts _ q1) (hts _ q2) (hts _ q3) (hts _ q4) hfr (by rw [xcats_eq]; exact Nat.le_trans (Nat.add_le_add_right h9 13) (Nat.le_trans (by decide) hlo)) (by show h.1 - N0 ≤ lim.1 - N0; omega) (by show h.2.1 - S0 ≤ lim.2 - S0; omega) hd (hk _ _ _ _ hs p l e s m args below meth c D cI cR b N0 S0 H locs ls X C hl)
  next ps =>
    obtain ⟨x, r, e1, hs1⟩ := xpi_el hs
    clear hs
    subst e1
    obtain ⟨h8, hs⟩ := bif_el hs1
    clear hs1
    obtain ⟨h1, h2⟩ := and_el hc
    have h2 := nb_eq h2
    subst h2
    obtain ⟨hfr, hlo⟩ := and_el h1
    have hfr := Nat.le_of_ble_eq_true hfr
    have hlo := Nat.le_of_ble_eq_true hlo
    obtain ⟨q1, q2, q3, q4⟩ := hq
    intro p l e s m args below meth c D cI cR b N0 S0 H locs ls X C hl
    have hts : ∀ w ∈ lw_g, w.before args s = true := fun w hw => X.2.2.2.2.2.2.2 w (List.mem_cons_of_mem _ hw)
    have h9 := Nat.le_of_ble_eq_true h8
    have c5 := C.2.2.2.2
    exact va_mabs X.1 X.2.1 (X.2.2.2.2.1.trans hl.1.symm) X.2.2.2.2.2.1 (hts _ q1) (hts _ q2) (hts _ q3) (hts _ q4) hfr (by rw [xcats_eq]; exact Nat.le_trans (Nat.add_le_add_right h9 13) (Nat.le_trans (by decide) hlo)) (by show h.1 - N0 ≤ lim.1 - N0; omega) (by show h.2.1 - S0 ≤ lim.2 - S0; omega) hd (hk _ _ _ _ hs p l e s m args below meth c D cI cR b N0 S0 H locs ls X C hl)
  · exact hs.elim
theorem xs_invokevirtual (hk : ∀ pc L st h, k pc L st h → xAt lim g Q pc L st h) {n : Nat} (hd : decode (sgB g) pc = .ok (.invokevirtual n, len)) (hc : xck g (pc, .invokevirtual n, len, lk) = true) (hq : xlk g (pc, .invokevirtual n, len, lk)) (hs : xstep lim g k Q pc L st h (.invokevirtual n) len lk) : xAt lim g Q pc L st h := by
  replace hs : xivt lim k pc len L st h lk := hs
  unfold xivt at hs
  split at hs
  next c0 =>
    split at hs
    next As r hpop =>
      obtain ⟨ra, r, rfl, hs⟩ := xpr_el hs
      obtain ⟨h8, hs⟩ := bif_el hs
      obtain ⟨h1, h2⟩ := and_el hc
      have h2 := nb_eq h2
      subst h2
      obtain ⟨hfr, hlo⟩ := and_el h1
      have hfr := Nat.le_of_ble_eq_true hfr
      have hlo := Nat.le_of_ble_eq_true hlo
      obtain ⟨hlink, hmc, hinst, hsel, ci, rc, hci, hrc, hcn⟩ := hq
      obtain ⟨B, hB, hst, hlen⟩ := xpop_el hpop
      rw [List.append_nil] at hB
      subst hB
      intro p l e s m args below meth c D cI cR b N0 S0 H locs ls X C hl
      obtain ⟨mc, ms, P, hsp, l1, l2, hs⟩ := xcal_el hs C.2.2.2.2.2.1 C.2.2.2.2.2.2.2
      obtain ⟨hrv, hPt, hM⟩ := hsp
      obtain ⟨ra', fs, As', hra, hat⟩ := hrv ci hci
      cases hra
      have hM := hM l D cI cR b
      have hts := X.2.2.2.2.2.2.2
      have hrec := va_recv (q0 := 0) C.1.1 (xWd_one C.2.1 hat) hrc rfl
      rw [hcn] at hrec
      refine x_after (va_runV (C := (sgN c0).cls) (b := b.1 + ra) (As := As.map (xcv b)) (rest := r.map (xcv b)) ⟨X.1, X.2.1, X.2.2.2.2.1, X.2.2.2.2.2.1, hts⟩ hM (cwV (sgP c0) hts (xgood (fun w hw => ?_)) rfl rfl rfl ⟨rfl, hmc.2.2.1, hmc.2.2.2.1, hmc.2.2.2.2⟩ ⟨hfr, hlo⟩) ⟨x_blind, hrec, fun U hU hW => ⟨rfl, by rw [hU]; exact C.2.1, xKk.moved hW.alike C.1, xSc.to C hU hW.alike⟩⟩ rfl (by rw [List.length_map]; exact hlen) hl.1 (by rw [hst]; simp [xcv]) (x_ok8 b h8) hd ?_) C.2.2.1 fun v h' H1 locs1 hP hW1 hS1 => ?_
      · rcases List.mem_append.mp hw with hw | hw
        · rcases List.mem_cons.mp hw with hw | hw
          · rw [hw]; exact hlink
          · rcases List.mem_cons.mp hw with hw | hw
            · rw [hw]; exact hinst
            · rcases List.mem_cons.mp hw with hw | hw
              · rw [hw]; exact hsel
              · rw [List.mem_singleton.mp hw]; exact hmc.1
        · exact xwd_in hmc w hw
      · have := C.2.2.2.2
        show h.1 - N0 + mc ≤ lim.1 - N0 ∧ h.2.1 - S0 + ms ≤ lim.2 - S0
        omega
      · obtain ⟨-, g3, g4⟩ := hPt v h' hP
        rw [x_map]
        have := C.2.2.2.2
        refine W.cs (show h.1 - N0 + mc = h'.1 - N0 by omega) (show h.2.1 - S0 + ms = h'.2.1 - S0 by omega) ?_
        exact hk _ _ _ _ (hs v h' hP) p l e s m args below meth c D cI cR b N0 S0 H1 locs1 ls X ⟨C.1, hW1, hS1, C.2.2.2.1, by omega⟩ hl
    · exact hs.elim
  · exact hs.elim
theorem xs_invokespecial (hk : ∀ pc L st h, k pc L st h → xAt lim g Q pc L st h) {n : Nat} (hd : decode (sgB g) pc = .ok (.invokespecial n, len)) (hc : xck g (pc, .invokespecial n, len, lk) = true) (hq : xlk g (pc, .invokespecial n, len, lk)) (hs : xstep lim g k Q pc L st h (.invokespecial n) len lk) : xAt lim g Q pc L st h := by
  replace hs : xisp lim k pc len L st h lk := hs
  unfold xisp at hs
  split at hs
  next c0 =>
    split at hs
    next As r hpop =>
      obtain ⟨ra, r, rfl, hs⟩ := xpr_el hs
      obtain ⟨h8, mc, ms, P, ⟨-, hsz, hM⟩, l1, l2, hs⟩ := bif_el hs
      obtain ⟨h1, h2⟩ := and_el hc
      have h2 := nb_eq h2
      subst h2
      obtain ⟨hfr, hlo⟩ := and_el h1
      have hfr := Nat.le_of_ble_eq_true hfr
      have hlo := Nat.le_of_ble_eq_true hlo
      obtain ⟨hlink, hmc, hinst, hnm, hret⟩ := hq
      obtain ⟨B, hB, hst, hlen⟩ := xpop_el hpop
      rw [List.append_nil] at hB
      subst hB
      intro p l e s m args below meth c D cI cR b N0 S0 H locs ls X C hl
      have hM := hM l D cI cR b
      have hts := X.2.2.2.2.2.2.2
      have hxw : xwd c0 = Cond.code (sgN c0) (sgB c0) (sgL c0) none :: lw_g := by unfold xwd; rw [hret]
      refine x_after (va_runI (b := b.1 + ra) (As := As.map (xcv b)) (rest := r.map (xcv b)) ⟨X.1, X.2.1, X.2.2.2.2.1, X.2.2.2.2.2.1, hts⟩ hM (cwI (sgP c0) hts (xgood (xwd_in hmc)) hxw rfl rfl (hts _ (List.mem_cons_of_mem _ hmc.1)) (hts _ (List.mem_cons_of_mem _ hlink)) (hts _ (List.mem_cons_of_mem _ hinst)) hnm ⟨hmc.2.2.1, hmc.2.2.2.1, hmc.2.2.2.2⟩ ⟨hfr, hlo⟩) ⟨x_blind, fun U hU hW => ⟨rfl, by rw [hU]; exact C.2.1, xKk.moved hW.alike C.1, xSc.to C hU hW.alike⟩⟩ rfl (by rw [List.length_map]; exact hlen) hl.1 (by rw [hst]; simp [xcv]) (x_ok8 b h8) hd ?_) C.2.2.1 fun v2 h2 H1 locs1 hP hW1 hS1 => ?_
      · have := C.2.2.2.2
        show h.1 - N0 + mc ≤ lim.1 - N0 ∧ h.2.1 - S0 + ms ≤ lim.2 - S0
        omega
      · obtain ⟨rfl, z1, z2⟩ := hsz _ _ hP
        have := C.2.2.2.2
        refine W.cs (show h.1 - N0 + mc = h2.1 - N0 by omega) (show h.2.1 - S0 + ms = h2.2.1 - S0 by omega) ?_
        exact hk _ _ _ _ (hs _ hP) p l e s m args below meth c D cI cR b N0 S0 H1 locs1 ls X ⟨C.1, hW1, hS1, C.2.2.2.1, by omega⟩ hl
    · exact hs.elim
  next q =>
    obtain ⟨ra, r, rfl, hs⟩ := xpr_el hs
    obtain ⟨h8, hs⟩ := bif_el hs
    obtain ⟨h1, h2⟩ := and_el hc
    have h2 := nb_eq h2
    subst h2
    obtain ⟨hfr, hlo⟩ := and_el h1
    have hfr := Nat.le_of_ble_eq_true hfr
    have hlo := Nat.le_of_ble_eq_true hlo
    obtain ⟨q1, q2, q3⟩ := hq
    intro p l e s m args below meth c D cI cR b N0 S0 H locs ls X C hl
    have hts : ∀ w ∈ lw_g, w.before args s = true := fun w hw => X.2.2.2.2.2.2.2 w (List.mem_cons_of_mem _ hw)
    have h9 := x_ok8 (pc := pc) (m := m) (ls := ls) (st0 := .ref (b.1 + ra) :: r.map (xcv b)) b h8
    exact W.objInit X.1 X.2.1 X.2.2.2.2.2.1 (hts _ q1) (hts _ q2) (hts _ q3) (g := F0 m pc ls (.ref (b.1 + ra) :: r.map (xcv b))) rfl (hl.1.trans X.2.2.2.2.1.symm) rfl hd hfr (Nat.le_trans (Nat.add_le_add_right h9 12) hlo) (hk _ _ _ _ hs p l e s m args below meth c D cI cR b N0 S0 H locs ls X C hl)
  · exact hs.elim
/-! answers -/
theorem xnil_el {st : List Value} {p : Prop} (h : xnil st p) : st = [] ∧ p := by
  unfold xnil at h
  split at h
  · exact ⟨rfl, h⟩
  · exact h.elim
theorem x_end {D : va_G} {cI cR : ClassId} {b : xB} {N0 S0 : Nat} {s t : State} {H : Heap} {locs : List Loc} {v : Option Value} {args : Array Value} (C : xCx lim g D cI cR b N0 S0 s h H locs) (hQ : Q v h) (ht : t.heap = H) (hW : s.WarmedH t.vm) : xQ D cI cR b Q args s (.returned (v.map (xcv b))) t :=
  ⟨v, h, hQ, rfl, by rw [ht]; exact C.2.1, xKk.moved hW.alike C.1, C.2.2.1.F ht⟩
theorem xs_ireturn (hd : decode (sgB g) pc = .ok (.ireturn, len)) (hc : xck g (pc, .ireturn, len, lk) = true) (hs : xstep lim g k Q pc L st h .ireturn len lk) : xAt lim g Q pc L st h := by
  obtain ⟨x, r, rfl, hs⟩ := xpi_el hs
  obtain ⟨rfl, hs⟩ := xnil_el hs
  have h2 := nb_eq hc
  subst h2
  intro p l e s m args below meth c D cI cR b N0 S0 H locs ls X C hl
  have c5 := C.2.2.2.2
  refine W.widen (k := lim.1 - N0) (n := lim.2 - S0) (by omega) (by omega) ?_
  replace hs : xrt g x (Q (some (.int x)) h) := hs
  unfold xrt at hs
  split at hs
  next hr => exact W.iret (v := x) X.1 X.2.1 (X.2.2.1.trans hr) (fun t ht hW => x_end C hs ht hW) C.2.2.1.2.2 hd X.2.2.2.1
  next hr =>
    refine W.zret (v := x) X.1 X.2.1 (X.2.2.1.trans hr) ?_ (fun t ht hW => x_end C hs.2 ht hW) C.2.2.1.2.2 hd X.2.2.2.1
    rcases hs.1 with h0 | h0 <;> subst h0 <;> decide
  · exact hs.elim
theorem xs_lreturn (hd : decode (sgB g) pc = .ok (.lreturn, len)) (hc : xck g (pc, .lreturn, len, lk) = true) (hs : xstep lim g k Q pc L st h .lreturn len lk) : xAt lim g Q pc L st h := by
  obtain ⟨x, r, rfl, hs⟩ := xpl_el hs
  obtain ⟨rfl, hs⟩ := xnil_el hs
  obtain ⟨hr, h2⟩ := and_el hc
  have hr : sgR g = some .long := of_decide_eq_true hr
  have h2 := nb_eq h2
  subst h2
  intro p l e s m args below meth c D cI cR b N0 S0 H locs ls X C hl
  have c5 := C.2.2.2.2
  refine W.widen (k := lim.1 - N0) (n := lim.2 - S0) (by omega) (by omega) ?_
  exact W.lret (v := x) X.1 X.2.1 (X.2.2.1.trans hr) (fun t ht hW => x_end C hs ht hW) C.2.2.1.2.2 hd X.2.2.2.1
theorem xs_return (hd : decode (sgB g) pc = .ok (.return_, len)) (hc : xck g (pc, .return_, len, lk) = true) (hs : xstep lim g k Q pc L st h .return_ len lk) : xAt lim g Q pc L st h := by
  obtain ⟨rfl, hs⟩ := xnil_el hs
  obtain ⟨hr, h2⟩ := and_el hc
  have hr : sgR g = none := of_decide_eq_true hr
  have h2 := nb_eq h2
  subst h2
  intro p l e s m args below meth c D cI cR b N0 S0 H locs ls X C hl
  have c5 := C.2.2.2.2
  refine W.widen (k := lim.1 - N0) (n := lim.2 - S0) (by omega) (by omega) ?_
  exact W.vret X.1 X.2.1 (X.2.2.1.trans hr) (fun t ht hW => x_end C hs ht hW) C.2.2.1.2.2 hd X.2.2.2.1

theorem xstep_sound (hk : ∀ pc L st h, k pc L st h → xAt lim g Q pc L st h) {i : Instr} (hd : decode (sgB g) pc = .ok (i, len)) (hc : xck g (pc, i, len, lk) = true) (hq : xlk g (pc, i, len, lk)) (hs : xstep lim g k Q pc L st h i len lk) : xAt lim g Q pc L st h := by
  cases i with
  | iconst n => exact xs_iconst hk hd hc hs
  | bipush n => exact xs_bipush hk hd hc hs
  | sipush n => exact xs_sipush hk hd hc hs
  | iload n => exact xs_iload hk hd hc hs
  | lload n => exact xs_lload hk hd hc hs
  | aload n => exact xs_aload hk hd hc hs
  | iload_n n => exact xs_iload_n hk hd hc hs
  | lload_n n => exact xs_lload_n hk hd hc hs
  | aload_n n => exact xs_aload_n hk hd hc hs
  | istore n => exact xs_istore hk hd hc hs
  | lstore n => exact xs_lstore hk hd hc hs
  | astore n => exact xs_astore hk hd hc hs
  | istore_n n => exact xs_istore_n hk hd hc hs
  | lstore_n n => exact xs_lstore_n hk hd hc hs
  | astore_n n => exact xs_astore_n hk hd hc hs
  | iinc n n2 => exact xs_iinc hk hd hc hs
  | iadd  => exact xs_iadd hk hd hc hs
  | isub  => exact xs_isub hk hd hc hs
  | imul  => exact xs_imul hk hd hc hs
  | iand  => exact xs_iand hk hd hc hs
  | ior  => exact xs_ior hk hd hc hs
  | ixor  => exact xs_ixor hk hd hc hs
  | ishl  => exact xs_ishl hk hd hc hs
  | ishr  => exact xs_ishr hk hd hc hs
  | iushr  => exact xs_iushr hk hd hc hs
  | idiv  => exact xs_idiv hk hd hc hs
  | irem  => exact xs_irem hk hd hc hs
  | ineg  => exact xs_ineg hk hd hc hs
  | ladd  => exact xs_ladd hk hd hc hs
  | lmul  => exact xs_lmul hk hd hc hs
  | i2l  => exact xs_i2l hk hd hc hs
  | dup  => exact xs_dup hk hd hc hs
  | dup2  => exact xs_dup2 hk hd hc hs
  | pop  => exact xs_pop hk hd hc hs
  | goto n => exact xs_goto hk hd hc hs
  | tableswitch n1 n2 n3 n4 => exact xs_tableswitch hk hd hc hs
  | iaload  => exact xs_iaload hk hd hc hs
  | iastore  => exact xs_iastore hk hd hc hs
  | aaload  => exact xs_aaload hk hd hc hs
  | aastore  => exact xs_aastore hk hd hc hs
  | arraylength  => exact xs_arraylength hk hd hc hs
  | ldc n => exact xs_ldc hk hd hc hq hs
  | ldc_w n => exact xs_ldc_w hk hd hc hq hs
  | ldc2_w n => exact xs_ldc2_w hk hd hc hq hs
  | getfield n => exact xs_getfield hk hd hc hq hs
  | putfield n => exact xs_putfield hk hd hc hq hs
  | newarray n => exact xs_newarray hk hd hc hq hs
  | anewarray n => exact xs_anewarray hk hd hc hq hs
  | new n => exact xs_new hk hd hc hq hs
  | invokestatic n => exact xs_invokestatic hk hd hc hq hs
  | invokevirtual n => exact xs_invokevirtual hk hd hc hq hs
  | invokespecial n => exact xs_invokespecial hk hd hc hq hs
  | ireturn => exact xs_ireturn hd hc hs
  | lreturn => exact xs_lreturn hd hc hs
  | return_ => exact xs_return hd hc hs
  | ifCond cn n =>
    cases cn with
    | eq => exact xs_ifCond_eq hk hd hc hs
    | ne => exact xs_ifCond_ne hk hd hc hs
    | lt => exact xs_ifCond_lt hk hd hc hs
    | ge => exact xs_ifCond_ge hk hd hc hs
    | gt => exact xs_ifCond_gt hk hd hc hs
    | le => exact xs_ifCond_le hk hd hc hs
  | if_icmp cn n =>
    cases cn with
    | eq => exact xs_if_icmp_eq hk hd hc hs
    | ne => exact xs_if_icmp_ne hk hd hc hs
    | lt => exact xs_if_icmp_lt hk hd hc hs
    | ge => exact xs_if_icmp_ge hk hd hc hs
    | gt => exact xs_if_icmp_gt hk hd hc hs
    | le => exact xs_if_icmp_le hk hd hc hs
  | _ => exact False.elim hs
end XS
/-! SOUNDNESS of the generator, and a method's contract out of it -/
theorem wp_sound {lim : Nat × Nat} {g : xSig} {cd : xCd} {cut : List (Nat × List Nat)} {K : xK} {Q : Option Value → xHp → Prop} (ok : xOK g cd) (hK : ∀ pc L st h, K pc L st h → xAt lim g Q pc L st h) : ∀ (n pc : Nat) (L : xLo) (st : List Value) (h : xHp), wp lim g cd cut K Q n pc L st h → xAt lim g Q pc L st h := by
  intro n
  induction n with
  | zero => intro pc L st h hs; exact hs.elim
  | succ n ih =>
    intro pc L st h hs
    replace hs : xgo (xfind cd pc) (xstep lim g (xnext cut K (wp lim g cd cut K Q n)) Q pc L st h) := hs
    obtain ⟨i, len, lk, hf, hs⟩ := xgo_el hs
    have hm := xfind_mem hf
    have h1 : decode (sgB g) pc = .ok (i, len) := ok.1 (pc, i, len, lk) hm
    have h2 : xck g (pc, i, len, lk) = true := List.all_eq_true.mp ok.2.1 (pc, i, len, lk) hm
    have h3 : xlk g (pc, i, len, lk) := ok.2.2 (pc, i, len, lk) hm
    generalize hkk : xnext cut K (wp lim g cd cut K Q n) = kx at hs
    have hkx : ∀ pc L st h, kx pc L st h → xAt lim g Q pc L st h := by
      intro pc' L' st' h' hk
      rw [← hkk] at hk
      rcases xnext_el hk with hk | ⟨ks, hk⟩
      · exact ih _ _ _ _ hk
      · exact xAt_sub (hK _ _ _ _ hk) xsel_mem
    exact xstep_sound hkx h1 h2 h3 hs
theorem lg_sl_cv (b : xB) : ∀ vs : List Value, (lg_sl (vs.map (xcv b))).length = (lg_sl vs).length
  | [] => rfl
  | v :: vs => by
    have ih := lg_sl_cv b vs
    unfold lg_sl at ih ⊢
    simp only [List.map_cons, List.flatMap_cons, List.length_append, ih, xcv_cat]
    by_cases hc : v.category = 2 <;> simp [hc]
theorem lv_args_cv (b : xB) : ∀ (vs : List Value) (i : Nat), lv_args i (vs.map (xcv b)) = xcL b (lv_args i vs)
  | [], _ => rfl
  | v :: vs, i => by
    have ih := lv_args_cv b vs
    simp only [List.map_cons, lv_args, xcL, xcv_cat] at ih ⊢
    rw [ih]
theorem Met_of {g : xSig} {args : List Value} {h : xHp} {mc ms : Nat} {P : Option Value → xHp → Prop} (hp : plainName (sgN g).cls = true) (hl : (lg_sl args).length ≤ sgL g)
    (hA : xAt (h.1 + mc, h.2.1 + ms) g P 0 (lv_args 0 args) [] h) (l : Launch) (D : va_G) (cI cR : ClassId) (b : xB) :
    Met l (sgN g) (xwd g) (xrm g mc ms) (va_Pc (args.map (xcv b)) (fun U => xWd D cI cR b h U.heap ∧ xKk D cI cR U ∧ xSc b U U.heap)) (xQ D cI cR b P) mc ms (fun q => b.1 ≤ q) := by
  refine Met.ofW (cc := sgB g) (maxL := sgL g) (ret := sgR g) hp rfl ?_
  intro p e s m as below meth c s₁ B hml hv
  obtain ⟨rfl, hW, hK, hSc⟩ := hv
  have hts := atoms_spec (ws := xwd g) B.pre
  rw [lg_entry_eq]
  have hl2 := lv_entry (args.map (xcv b)) (n := sgL g) (by rw [lg_sl_cv]; exact hl)
  rw [lv_args_cv] at hl2
  have hsz : s.heap.size = b.1 + h.1 := hW.1
  have key := hA p l e s m _ below meth c D cI cR b h.1 h.2.1 s.heap [] _ ⟨B.exec, B.bytes, B.returns, B.notSynchronized, hml, findClass_of_methodNamed B.named, (name_of_methodNamed B.named B.method).1, hts⟩ ⟨hK, hW, va_S.rf, ⟨hsz.symm, hSc⟩, Nat.le_refl _, Nat.le_add_right _ _, Nat.le_refl _, Nat.le_add_right _ _⟩ hl2
  simp only [Nat.sub_self, Nat.add_sub_cancel_left] at key
  exact key
theorem SpecA.of {g : xSig} {args : List Value} {h : xHp} (mc ms : Nat) {P : Option Value → xHp → Prop} (hp : plainName (sgN g).cls = true) (hl : (lg_sl args).length ≤ sgL g) (hr : xrecv g args h) (ht : ∀ v h', P v h' → v = none ∧ h'.1 = h.1 + mc ∧ h'.2.1 = h.2.1 + ms)
    (hA : ∀ Q : Option Value → xHp → Prop, (∀ v h', P v h' → Q v h') → xAt (h.1 + mc, h.2.1 + ms) g Q 0 (lv_args 0 args) [] h) : SpecA g args h mc ms P :=
  ⟨hr, ht, Met_of hp hl (hA P (fun _ _ z => z))⟩
theorem SpecR.of {g : xSig} {args : List Value} {h : xHp} {P : Option Value → xHp → Prop} (hp : plainName (sgN g).cls = true) (hl : (lg_sl args).length ≤ sgL g) (hr : xrecv g args h) (ht : ∀ v h', P v h' → xtym (sgR g) v ∧ h'.1 = h.1 ∧ h'.2.1 = h.2.1)
    (hA : ∀ Q : Option Value → xHp → Prop, (∀ v h', P v h' → Q v h') → xAt (h.1, h.2.1) g Q 0 (lv_args 0 args) [] h) : SpecR g args h P :=
  ⟨hr, ht, Met_of (mc := 0) (ms := 0) hp hl (hA P (fun _ _ z => z))⟩
theorem SpecN.of {g : xSig} {args : List Value} {h : xHp} (mc ms : Nat) {P : Option Value → xHp → Prop} (hp : plainName (sgN g).cls = true) (hl : (lg_sl args).length ≤ sgL g) (hr : xrecv g args h) (ht : ∀ v h', P v h' → xtym (sgR g) v ∧ h'.1 = h.1 + mc ∧ h'.2.1 = h.2.1 + ms)
    (hA : ∀ Q : Option Value → xHp → Prop, (∀ v h', P v h' → Q v h') → xAt (h.1 + mc, h.2.1 + ms) g Q 0 (lv_args 0 args) [] h) : SpecN g args h mc ms P :=
  ⟨hr, ht, Met_of hp hl (hA P (fun _ _ z => z))⟩
theorem Spec.of {g : xSig} {args : List Value} {h h' : xHp} {v : Option Value} (hp : plainName (sgN g).cls = true) (hl : (lg_sl args).length ≤ sgL g) (ht : xtym (sgR g) v) (h1 : h'.1 = h.1) (h2 : h'.2.1 = h.2.1) (hr : xrecv g args h)
    (hA : ∀ Q : Option Value → xHp → Prop, Q v h' → xAt (h.1, h.2.1) g Q 0 (lv_args 0 args) [] h) : Spec g args h v h' :=
  SpecR.of hp hl hr (fun v2 h2' z => by obtain ⟨rfl, rfl⟩ := z; exact ⟨ht, h1, h2⟩) (fun Q hQ => hA Q (hQ _ _ ⟨rfl, rfl⟩))

