/-! THE LAW: from its entry to its loop -/
set_option maxRecDepth 100000 in
theorem lw_gl9 : Cond.methodLink R_law 9 (sgN g_TV_init) ∈ lw_g := lw_gm 88 rfl rfl
set_option maxRecDepth 100000 in
theorem lw_gl12 : Cond.methodLink R_law 12 (sgN g_Mo_init) ∈ lw_g := lw_gm 812 rfl rfl
set_option maxRecDepth 100000 in
theorem lw_cnT : ∃ r, xcl[8]? = some r ∧ r.2.2 = 8 ∧ Cond.classLink R_law 7 r.1 ∈ lw_g ∧ Cond.instantiable r.1 r.2.2 ∈ lw_g ∧ Cond.initialized r.1 ∈ lw_g := ⟨_, rfl, rfl, lw_gm 86 rfl rfl, lw_gm 87 rfl rfl, lw_gm 69 rfl rfl⟩
set_option maxRecDepth 100000 in
theorem lw_cnM : ∃ r, xcl[9]? = some r ∧ r.2.2 = 18 ∧ Cond.classLink R_law 10 r.1 ∈ lw_g ∧ Cond.instantiable r.1 r.2.2 ∈ lw_g ∧ Cond.initialized r.1 ∈ lw_g := ⟨_, rfl, rfl, lw_gm 810 rfl rfl, lw_gm 811 rfl rfl, lw_gm 80 rfl rfl⟩
set_option maxRecDepth 100000 in
theorem lw_in0 : Cond.instantiable xR0 4 ∈ lw_g := lw_gm 266 rfl rfl
set_option maxRecDepth 100000 in
theorem lw_in1 : Cond.instantiable xR1 3 ∈ lw_g := lw_gm 173 rfl rfl
set_option maxRecDepth 100000 in
theorem lw_in2 : Cond.instantiable xR2 6 ∈ lw_g := lw_gm 101 rfl rfl
set_option maxRecDepth 100000 in
theorem lw_in3 : Cond.instantiable xR3 3 ∈ lw_g := lw_gm 209 rfl rfl
set_option maxRecDepth 100000 in
theorem lw_in4 : Cond.instantiable xR4 6 ∈ lw_g := lw_gm 240 rfl rfl
set_option maxRecDepth 100000 in
theorem lw_in5 : Cond.instantiable xR5 4 ∈ lw_g := lw_gm 95 rfl rfl
set_option maxRecDepth 100000 in
theorem lw_in6 : Cond.instantiable xR6 2 ∈ lw_g := lw_gm 193 rfl rfl
set_option maxRecDepth 100000 in
theorem lw_in7 : Cond.instantiable xR7 1 ∈ lw_g := lw_gm 229 rfl rfl
set_option maxRecDepth 100000 in
theorem lw_in8 : Cond.instantiable xR8 8 ∈ lw_g := lw_gm 87 rfl rfl
set_option maxRecDepth 100000 in
theorem lw_in9 : Cond.instantiable xR9 18 ∈ lw_g := lw_gm 811 rfl rfl
set_option maxRecDepth 100000 in
theorem lw_ac : Cond.arrayClass .int ∈ lw_g := lw_gm 134 rfl rfl
set_option maxRecDepth 100000 in
theorem lw_ao : Cond.arrayOver (.object xrn) ∈ lw_tbl := List.mem_of_getElem? (i := 179) rfl
set_option maxHeartbeats 4000000 in
theorem whole_start {p : Program} {e : Env} {s : State} {m : MethodId} {below : List Frame} {meth : Method} {c : Code} (l : Launch) (hflags : l.flags = flags0) {b L : Nat} {xs : Nat → Int32} (hL : L ≤ 2048) (C0 : lw_At p s m meth c b L xs) : W p l e room_1 s m #[Value.ref b] below meth c s.heap [] 0 0 (lw_Z below #[Value.ref b] s) (entryFrame m ([Value.ref b] : List Value).toArray 4) := by
  obtain ⟨hx, hb, hr, hml, hown, hts, hX, hbl, hlocks, hgv⟩ := id C0
  have hlg : ∀ w ∈ lw_g, w.before #[Value.ref b] s = true := fun w hw => hts w (lw_gt hw)
  have X : LX p s m #[Value.ref b] c := ⟨hx, hb, hml, hown, hlg⟩
  have pR := lp_rest
  rw [Bool.and_eq_true, Bool.and_eq_true, Bool.and_eq_true, Bool.and_eq_true, Bool.and_eq_true, Bool.and_eq_true, Bool.and_eq_true, Bool.and_eq_true, Bool.and_eq_true, decide_eq_true_eq, decide_eq_true_eq, decide_eq_true_eq, decide_eq_true_eq, decide_eq_true_eq, decide_eq_true_eq, decide_eq_true_eq, decide_eq_true_eq, decide_eq_true_eq, decide_eq_true_eq] at pR
  obtain ⟨e0, e3, e4, e7, e8, e11, e12, e15, e16, e17⟩ := pR
  obtain ⟨c0, i0, K0⟩ := lw_kn (k := 0) hlg rfl (hlg _ lw_in0)
  obtain ⟨c1, i1, K1⟩ := lw_kn (k := 1) hlg rfl (hlg _ lw_in1)
  obtain ⟨c2, i2, K2⟩ := lw_kn (k := 2) hlg rfl (hlg _ lw_in2)
  obtain ⟨c3, i3, K3⟩ := lw_kn (k := 3) hlg rfl (hlg _ lw_in3)
  obtain ⟨c4, i4, K4⟩ := lw_kn (k := 4) hlg rfl (hlg _ lw_in4)
  obtain ⟨c5, i5, K5⟩ := lw_kn (k := 5) hlg rfl (hlg _ lw_in5)
  obtain ⟨c6, i6, K6⟩ := lw_kn (k := 6) hlg rfl (hlg _ lw_in6)
  obtain ⟨c7, i7, K7⟩ := lw_kn (k := 7) hlg rfl (hlg _ lw_in7)
  obtain ⟨c8, i8, K8⟩ := lw_kn (k := 8) hlg rfl (hlg _ lw_in8)
  obtain ⟨c9, i9, K9⟩ := lw_kn (k := 9) hlg rfl (hlg _ lw_in9)
  obtain ⟨dC, dI, hKc⟩ : ∃ (dC : Nat → ClassId) (dI : Nat → Nat → Nat), ∀ (k : Nat) (q : vw_C), xcl[k]? = some q → u_Kn s q.1 q.2.1 q.2.2 (dC k) (dI k) := by
    refine ⟨fun k => match k with | 0 => c0 | 1 => c1 | 2 => c2 | 3 => c3 | 4 => c4 | 5 => c5 | 6 => c6 | 7 => c7 | 8 => c8 | _ => c9, fun k => match k with | 0 => i0 | 1 => i1 | 2 => i2 | 3 => i3 | 4 => i4 | 5 => i5 | 6 => i6 | 7 => i7 | 8 => i8 | _ => i9, ?_⟩
    intro k q hq
    match k, hq with
    | 0, hq => cases hq; exact K0
    | 1, hq => cases hq; exact K1
    | 2, hq => cases hq; exact K2
    | 3, hq => cases hq; exact K3
    | 4, hq => cases hq; exact K4
    | 5, hq => cases hq; exact K5
    | 6, hq => cases hq; exact K6
    | 7, hq => cases hq; exact K7
    | 8, hq => cases hq; exact K8
    | 9, hq => cases hq; exact K9
    | k + 10, hq => simp at hq
  obtain ⟨cI, a1, a2⟩ := lw_arr (hlg _ lw_ac)
  obtain ⟨cR, b1, b2⟩ := lw_arro (hts _ lw_ao)
  have hKk : xKk (dC, dI) cI cR s := ⟨⟨hKc, fun k q hq => by
    match k, hq with
    | 0, hq => cases hq; exact ⟨a1, a2⟩
    | 1, hq => cases hq; exact ⟨b1, b2⟩
    | k + 2, hq => simp [xtys] at hq⟩, va_AO.of (hts _ lw_ao)⟩
  have C : LC s (dC, dI) cI cR (0, 0, fun _ => xob 0 []) s.heap [] := ⟨hKk, ⟨rfl, fun k hk => absurd hk (Nat.not_lt_zero k)⟩, va_S.rf, rfl, Nat.le_refl 0, Nat.zero_le _, Nat.le_refl 0, Nat.zero_le _⟩
  have hl := lv_entry ([.ref b]) (n := 4) (Nat.le_of_ble_eq_true rfl)
  rw [lg_entry_eq]
  generalize (lg_sl ([.ref b]) ++ List.replicate (4 - (lg_sl ([.ref b])).length) Slot.unset).toArray = ls at hl ⊢
  have hl : lv_has ls 4 [(0, .ref b)] := hl
  refine lw_new (ci := 8) X C lw_cnT e0 ⟨Nat.le_of_ble_eq_true rfl, Nat.le_of_ble_eq_true rfl⟩ ⟨Nat.le_of_ble_eq_true rfl, Nat.le_of_ble_eq_true rfl⟩ (fun H1 C1 => ?_)
  refine lv_dup hx hb e3 rfl ?_
  refine lw_spec (ra := 0) (rest := [.ref (s.heap.size + 0)]) X C1 hl.1 lw_gl9 xmi_TV_init (by decide) (by decide) rfl (sp_TV_init (a := 0) (xat_nf (h := ((0, 0, fun _ => xob 0 []) : xHp))) rfl) (Nat.le_of_ble_eq_true rfl) e4 ⟨Nat.le_of_ble_eq_true rfl, Nat.le_of_ble_eq_true rfl⟩ ⟨Nat.le_of_ble_eq_true rfl, Nat.le_of_ble_eq_true rfl⟩ (fun h2 H2 locs2 z C2 => ?_)
  obtain ⟨-, wT2, fr2⟩ := z
  obtain ⟨N2, S2, F2⟩ := h2
  have zN : N2 = 84 := fr2.1
  have zS : S2 = 10803 := fr2.2.1
  subst zN zS
  refine lv_astore_n (lv' := [(1, .ref (s.heap.size + 0)), (0, .ref b)]) hx hb e7 rfl hl (by decide) rfl (fun ls hl => ?_)
  refine lw_new (ci := 9) X C2 lw_cnM e8 ⟨Nat.le_of_ble_eq_true rfl, Nat.le_of_ble_eq_true rfl⟩ ⟨Nat.le_of_ble_eq_true rfl, Nat.le_of_ble_eq_true rfl⟩ (fun H3 C3 => ?_)
  refine lv_dup hx hb e11 rfl ?_
  refine lw_spec (ra := 84) (rest := [.ref (s.heap.size + 84)]) X C3 hl.1 lw_gl12 xmi_Mo_init (by decide) (by decide) rfl (sp_Mo_init (a := 84) (xat_nf (h := ((84, 10803, F2) : xHp))) rfl) (Nat.le_of_ble_eq_true rfl) e12 ⟨by omega, by omega⟩ ⟨by show 84 + 1 + 13 ≤ 600000; omega, by show 10803 + 18 + 12134 ≤ 7302250; omega⟩ (fun h4 H4 locs4 z C4 => ?_)
  obtain ⟨-, wM4, fr4⟩ := z
  have u4 : sub (84, 10803, F2) h4 0 84 := sub_tr (sub_new (n := 18) (e := xob 9 (xdef 9)) (sub_rf (h := ((84, 10803, F2) : xHp)) (lo := 0) (hi := 84)) (Nat.le_refl 84)) (frA_sub (lo := 0) fr4 (Nat.le_refl 84)) (Nat.le_refl _) (Nat.le_refl _)
  have wT4 : isT h4 0 (st0 6, [], 0, fun _ => 0) := isT.sb (ω := (st0 6, [], 0, fun _ => 0)) wT2 u4 (Nat.le_refl _) (Nat.le_refl _)
  refine lv_astore_n (lv' := [(2, .ref (s.heap.size + 84)), (1, .ref (s.heap.size + 0)), (0, .ref b)]) hx hb e15 rfl hl (by decide) rfl (fun ls hl => ?_)
  refine lv_iconst (v := nI 0) hx hb e16 (by decide) ?_
  refine lv_istore_n (lv' := [(3, .int (nI 0)), (2, .ref (s.heap.size + 84)), (1, .ref (s.heap.size + 0)), (0, .ref b)]) hx hb e17 rfl hl (by decide) rfl (fun ls hl => ?_)
  refine W.widen (k := 98) (n := 22955) (Nat.le_of_ble_eq_true rfl) (Nat.le_of_ble_eq_true rfl) ?_
  exact law_loop hL C0 (L + 1) 0 (Nat.zero_le L) (by omega) _ H4 locs4 ls wok_0 ⟨h4, C4, wT4, wM4⟩ hl
