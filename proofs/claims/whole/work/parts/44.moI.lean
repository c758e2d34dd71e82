/-! THE REFERENCE'S CALLS: the tail, rhymes -/
theorem mis_step {n : Nat} (hn : n ≤ 7) (m x : Nat) : ((2 ^ n - 1) &&& (m ^^^ 4294967295)) &&& (x ^^^ 4294967295) = (2 ^ n - 1) &&& ((m ||| x) ^^^ 4294967295) := by
  apply Nat.eq_of_testBit_eq
  intro i
  rw [show (4294967295 : Nat) = 2 ^ 32 - 1 from rfl]
  simp only [Nat.testBit_and, Nat.testBit_xor, Nat.testBit_or, Nat.testBit_two_pow_sub_one]
  by_cases h : i < n
  · have h2 : i < 32 := by omega
    simp only [h, h2, decide_true, Bool.true_and]
    cases m.testBit i <;> cases x.testBit i <;> rfl
  · simp [h]
theorem sp_Mo_tailWords {h : xHp} {B : Nat} {ω : Wv} {F tx : Nat → Int32} (w : isMF h B ω F tx) (k : wok ω) : Spec g_Mo_tailWords [.ref B] h (some (.int (nI (sumN (ptn (wP ω)) (ptl (wP ω)))))) h := by
  obtain ⟨fs, hrc⟩ := bM_rc w.b
  obtain ⟨l1, m1, s1, o1⟩ := w.1
  have hP : pok (wN ω) (wP ω) := k.1.2.2.2.2
  have ht4 := hP.2.2.2.1
  obtain ⟨-, -, -, -, -, -, q7, q8, -⟩ := pg0.mp w.2.2.1.1
  have q7 : F 163 = nI (ptl (wP ω)) := q7
  refine Spec.of (by decide +kernel) (Nat.le_of_ble_eq_true rfl) ⟨_, rfl⟩ rfl rfl (fun c hc => by cases hc; exact ⟨_, _, _, rfl, hrc⟩) (fun Q hQ => ?_)
  refine xgoal [(4, [0, 1, 2])] 100 ok_Mo_tailWords ?_
  refine up_loop (P := fun l => xAt (h.1, h.2.1) g_Mo_tailWords Q 4 [(0, .ref B), (1, .int (nI (sumN (ptn (wP ω)) l))), (2, .int (nI l))] [] h) (ptl (wP ω)) ?_ (fun l hl ih => ?_) 0 (Nat.zero_le _)
  · refine xgoal [(4, [0, 1, 2])] 100 ok_Mo_tailWords ?_
    refine xgf o1 rfl ?_
    refine xal w.2.1 rfl (show 163 < 1620 by omega) (by decide) ?_
    exact pk_le (ptl (wP ω)) (ptl (wP ω)) (fun _ => hQ) (fun z => absurd z (by omega)) q7 rfl
  · refine xgoal [(4, [0, 1, 2])] 100 ok_Mo_tailWords ?_
    refine xgf o1 rfl ?_
    refine xal w.2.1 rfl (show 163 < 1620 by omega) (by decide) ?_
    refine pk_le (ptl (wP ω)) l (fun z => absurd z (by omega)) (fun _ => ?_) q7 rfl
    refine xgf o1 rfl ?_
    refine xal w.2.1 (nI_add 164 l) (show 164 + l < 1620 by omega) (by decide) ?_
    rw [show sumN (ptn (wP ω)) (l + 1) = sumN (ptn (wP ω)) l + ptn (wP ω) l from rfl, ← nI_add, ← q8 l hl, ← nI_1 l] at ih
    exact ih
theorem sp_Mo_missing {h : xHp} {B : Nat} {ω : Wv} {F tx : Nat → Int32} (w : isMF h B ω F tx) (k : wok ω) : Spec g_Mo_missing [.ref B] h (some (.int (nI (mis (wN ω) (wP ω))))) h := by
  obtain ⟨fs, hrc⟩ := bM_rc w.b
  obtain ⟨l1, m1, s1, o1⟩ := w.1
  have hn : wN ω ≤ 7 := k.1.2.1
  have hP : pok (wN ω) (wP ω) := k.1.2.2.2.2
  have ht4 := hP.2.2.2.1
  obtain ⟨-, -, -, -, -, -, q7, q8, q9⟩ := pg0.mp w.2.2.1.1
  have q7 : F 163 = nI (ptl (wP ω)) := q7
  have q8 : ∀ l, l < ptl (wP ω) → F (164 + l) = nI (ptn (wP ω) l) := q8
  have q9 : ∀ l, l < ptl (wP ω) → ∀ k, k < ptn (wP ω) l → F (168 + 3 * l + k) = nI (ptw (wP ω) l k) := q9
  have hp1 := Nat.two_pow_pos (wN ω)
  refine Spec.of (by decide +kernel) (Nat.le_of_ble_eq_true rfl) ⟨_, rfl⟩ rfl rfl (fun c hc => by cases hc; exact ⟨_, _, _, rfl, hrc⟩) (fun Q hQ => ?_)
  refine xgoal [(11, [0, 1, 2])] 100 ok_Mo_missing ?_
  refine xci (sp_Mo_size w.b) ?_
  have key := up_loop (P := fun l => xAt (h.1, h.2.1) g_Mo_missing Q 11 [(0, .ref B), (1, .int (nI ((2 ^ wN ω - 1) &&& (wot (wP ω) l ^^^ 4294967295)))), (2, .int (nI l))] [] h) (ptl (wP ω)) ?_ (fun l hl ih => ?_) 0 (Nat.zero_le _)
  · have e0 : (2 ^ wN ω - 1) &&& (wot (wP ω) 0 ^^^ 4294967295) = 2 ^ wN ω - 1 := by
      apply Nat.eq_of_testBit_eq
      intro i
      rw [show (4294967295 : Nat) = 2 ^ 32 - 1 from rfl, show wot (wP ω) 0 = 0 from rfl]
      simp only [Nat.testBit_and, Nat.testBit_xor, Nat.testBit_two_pow_sub_one, Nat.zero_testBit]
      by_cases h : i < wN ω
      · have h2 : i < 32 := by omega
        simp [h, h2]
      · simp [h]
    have e1 : nI 1 <<< (nI (wN ω) &&& 31) - nI 1 = nI (2 ^ wN ω - 1) := by rw [n_shl _ _ (by omega), Nat.one_mul, pk_sub (by omega)]
    rw [e0, ← e1] at key
    exact key
  · refine xgoal [(11, [0, 1, 2])] 100 ok_Mo_missing ?_
    refine xgf o1 rfl ?_
    refine xal w.2.1 rfl (show 163 < 1620 by omega) (by decide) ?_
    exact pk_le (ptl (wP ω)) (ptl (wP ω)) (fun _ => hQ) (fun z => absurd z (by omega)) q7 rfl
  · have h3 := (hP.2.2.2.2.1 l hl).2
    refine xgoal [(11, [0, 1, 2]), (25, [0, 1, 2, 3])] 100 ok_Mo_missing ?_
    refine xgf o1 rfl ?_
    refine xal w.2.1 rfl (show 163 < 1620 by omega) (by decide) ?_
    refine pk_le (ptl (wP ω)) l (fun z => absurd z (by omega)) (fun _ => ?_) q7 rfl
    have key2 := up_loop (P := fun j => xAt (h.1, h.2.1) g_Mo_missing Q 25 [(0, .ref B), (1, .int (nI ((2 ^ wN ω - 1) &&& ((wot (wP ω) l ||| bms (ptw (wP ω) l) j) ^^^ 4294967295)))), (2, .int (nI l)), (3, .int (nI j))] [] h) (ptn (wP ω) l) ?_ (fun j hj ih2 => ?_) 0 (Nat.zero_le _)
    · rw [show wot (wP ω) l ||| bms (ptw (wP ω) l) 0 = wot (wP ω) l from Nat.or_zero _] at key2
      exact key2
    · unfold wot at ih
      rw [← nI_1 l] at ih
      refine xgoal [(11, [0, 1, 2]), (25, [0, 1, 2, 3])] 100 ok_Mo_missing ?_
      refine xgf o1 rfl ?_
      refine xal w.2.1 (nI_add 164 l) (show 164 + l < 1620 by omega) (by decide) ?_
      exact pk_le (ptn (wP ω) l) (ptn (wP ω) l) (fun _ => ih) (fun z => absurd z (by omega)) (q8 l hl) rfl
    · have hw := hP.2.2.2.2.2 l hl j hj
      refine xgoal [(11, [0, 1, 2]), (25, [0, 1, 2, 3])] 100 ok_Mo_missing ?_
      refine xgf o1 rfl ?_
      refine xal w.2.1 (nI_add 164 l) (show 164 + l < 1620 by omega) (by decide) ?_
      refine pk_le (ptn (wP ω) l) j (fun z => absurd z (by omega)) (fun _ => ?_) (q8 l hl) rfl
      refine xgf o1 rfl ?_
      have ei : nI 168 + nI 3 * nI l + nI j = nI (168 + 3 * l + j) := by rw [n_mul, nI_add, nI_add]
      refine xal w.2.1 ei (show 168 + 3 * l + j < 1620 by omega) (by decide) ?_
      have em : nI ((2 ^ wN ω - 1) &&& ((wot (wP ω) l ||| bms (ptw (wP ω) l) (j + 1)) ^^^ 4294967295)) = nI ((2 ^ wN ω - 1) &&& ((wot (wP ω) l ||| bms (ptw (wP ω) l) j) ^^^ 4294967295)) &&& (nI 1 <<< (F (168 + 3 * l + j) &&& 31) ^^^ -1) := by
        rw [q9 l hl j hj, n_shl _ _ (by omega), Nat.one_mul, n_m1, n_xor, n_and, mis_step hn, Nat.or_assoc]
        rfl
      rw [em, ← nI_1 j] at ih2
      exact ih2
theorem sp_Mo_tail {h : xHp} {B : Nat} {ω : Wv} {a : Int32} (w : isM h B ω) (k : wok ω) : SpecR g_Mo_tail [.ref B, .int a] h (pM h B (stTail ω a)) := by
  obtain ⟨F, tx, w⟩ := w
  obtain ⟨fs, hrc⟩ := bM_rc w.b
  refine SpecR.of (by decide +kernel) (Nat.le_of_ble_eq_true rfl) (fun c hc => by cases hc; exact ⟨_, _, _, rfl, hrc⟩) (fun v h' z => ⟨⟨_, z.1⟩, z.2.2.1, z.2.2.2.1⟩) (fun Q hQ => ?_)
  generalize hO : stTail ω a = o at hQ
  unfold stTail at hO
  have bad : ∀ c, (c, ω) = o → Q (some (.int c)) h := fun c e => by subst e; exact hQ _ _ ⟨rfl, ⟨F, tx, w⟩, frm_rf⟩
  have fin : ∀ (v : Int32) (ω' : Wv) (h' : xHp) (F' tx' : Nat → Int32), (v, ω') = o → isMF h' B ω' F' tx' → frm h h' B (B + 14) → Q (some (.int v)) h' := fun v ω' h' F' tx' e w' f => by subst e; exact hQ _ _ ⟨rfl, ⟨F', tx', w'⟩, f⟩
  have hn1 : 2 ≤ wN ω := k.1.1
  have hn : wN ω ≤ 7 := k.1.2.1
  have hS : ∀ i, i < wN ω → sS ω.1 i < 4 := k.1.2.2.1
  have hG : ∀ r, r < 6 → PM (wN ω) (wG ω r) := k.1.2.2.2.1
  have hP : pok (wN ω) (wP ω) := k.1.2.2.2.2
  refine xgoal [(4, [0, 1, 2, 3])] 100 ok_Mo_tail ?_
  have ht4 := hP.2.2.2.1
  have h7 := p2_7 hn
  have hp1 := Nat.two_pow_pos (wN ω)
  have hm : mis (wN ω) (wP ω) ≤ 2 ^ wN ω - 1 := Nat.and_le_left
  have ep := pop_ct (wN ω) (by omega) (mis (wN ω) (wP ω)) (by omega)
  have hs12 : sumN (ptn (wP ω)) (ptl (wP ω)) ≤ ptl (wP ω) * 3 := sumN_bd (fun l hl => (hP.2.2.2.2.1 l hl).2)
  obtain ⟨l1, m1, s1, o1⟩ := w.1
  have q7 : F 163 = nI (ptl (wP ω)) := (pg0.mp w.2.2.1.1).2.2.2.2.2.2.1
  refine up_loop (P := fun j => xAt (h.1, h.2.1) g_Mo_tail Q 4 [(0, .ref B), (1, .int a), (2, .int (nI (ct (fun b => (mis (wN ω) (wP ω)).testBit b) j))), (3, .int (nI j))] [] h) (wN ω) ?_ (fun j hj ih => ?_) 0 (Nat.zero_le _)
  · rw [ep]
    cases hx : ix 4 a with
    | none =>
      rw [gdN hx] at hO
      have no : ∀ j, j < 4 → ¬ a = nI j := fun j hj e => by rw [e, ix_nI hj (by omega)] at hx; cases hx
      refine xgoal [(4, [0, 1, 2, 3])] 100 ok_Mo_tail ?_
      refine xci (sp_Mo_size w.b) ?_
      refine pk_le (wN ω) (wN ω) (fun _ => ?_) (fun z => absurd z (by omega))
      refine And.intro (fun z => absurd z (no 0 (by omega))) (fun _ => ?_)
      refine And.intro (fun z => absurd z (no 1 (by omega))) (fun _ => ?_)
      refine And.intro (fun z => absurd z (no 2 (by omega))) (fun _ => ?_)
      refine And.intro (fun z => absurd z (no 3 (by omega))) (fun _ => ?_)
      exact bad _ hO
    | some x =>
      obtain ⟨e, hx4⟩ := ix_some hx
      subst e
      rw [gdS hx] at hO
      refine xgoal [(4, [0, 1, 2, 3])] 100 ok_Mo_tail ?_
      refine xci (sp_Mo_size w.b) ?_
      refine pk_le (wN ω) (wN ω) (fun _ => ?_) (fun z => absurd z (by omega))
      refine pk_eq x 0 (fun c => ?_) (fun c0 => ?_)
      · subst c
        refine xgf o1 rfl ?_
        refine xal w.2.1 rfl (show 163 < 1620 by omega) (by decide) ?_
        exact bad _ (by rw [q7]; exact hO)
      refine pk_eq x 1 (fun c => ?_) (fun c1 => ?_)
      · subst c
        refine xci (sp_Mo_tailWords w k) ?_
        exact bad _ hO
      refine pk_eq x 2 (fun c => ?_) (fun c2 => ?_)
      · subst c
        refine xci (sp_Mo_missing w k) ?_
        exact bad _ hO
      refine pk_eq x 3 (fun c => ?_) (fun c3 => absurd hx4 (by omega))
      subst c
      have hO : ((if sumN (ptn (wP ω)) (ptl (wP ω)) < wN ω then -9 else nI (pop (mis (wN ω) (wP ω)))), ω) = o := hO
      refine xci (sp_Mo_tailWords w k) ?_
      refine xci (sp_Mo_size w.b) ?_
      refine pk_le (wN ω) (sumN (ptn (wP ω)) (ptl (wP ω))) (fun c => ?_) (fun c => ?_)
      · rw [if_neg (by omega)] at hO; exact bad _ hO
      · rw [if_pos c] at hO; exact bad _ hO
  · have eb : nI (mis (wN ω) (wP ω)) >>> (nI j &&& 31) &&& nI 1 = nI (mis (wN ω) (wP ω) / 2 ^ j % 2) := by rw [n_shr (by omega) (by omega), n_and, show (1 : Nat) = 2 ^ 1 - 1 from rfl, Nat.and_two_pow_sub_one_eq_mod]
    rw [ct_bit, ← nI_add, ← eb, ← nI_1 j] at ih
    refine xgoal [(4, [0, 1, 2, 3])] 100 ok_Mo_tail ?_
    refine xci (sp_Mo_size w.b) ?_
    refine pk_le (wN ω) j (fun z => absurd z (by omega)) (fun _ => ?_)
    refine xci (sp_Mo_missing w k) ?_
    exact ih
theorem sp_Mo_tailWord {h : xHp} {B : Nat} {ω : Wv} {a b : Int32} (w : isM h B ω) (k : wok ω) : SpecR g_Mo_tailWord [.ref B, .int a, .int b] h (pM h B (stTailWord ω a b)) := by
  obtain ⟨F, tx, w⟩ := w
  obtain ⟨fs, hrc⟩ := bM_rc w.b
  refine SpecR.of (by decide +kernel) (Nat.le_of_ble_eq_true rfl) (fun c hc => by cases hc; exact ⟨_, _, _, rfl, hrc⟩) (fun v h' z => ⟨⟨_, z.1⟩, z.2.2.1, z.2.2.2.1⟩) (fun Q hQ => ?_)
  generalize hO : stTailWord ω a b = o at hQ
  unfold stTailWord at hO
  have bad : ∀ c, (c, ω) = o → Q (some (.int c)) h := fun c e => by subst e; exact hQ _ _ ⟨rfl, ⟨F, tx, w⟩, frm_rf⟩
  have fin : ∀ (v : Int32) (ω' : Wv) (h' : xHp) (F' tx' : Nat → Int32), (v, ω') = o → isMF h' B ω' F' tx' → frm h h' B (B + 14) → Q (some (.int v)) h' := fun v ω' h' F' tx' e w' f => by subst e; exact hQ _ _ ⟨rfl, ⟨F', tx', w'⟩, f⟩
  have hn1 : 2 ≤ wN ω := k.1.1
  have hn : wN ω ≤ 7 := k.1.2.1
  have hS : ∀ i, i < wN ω → sS ω.1 i < 4 := k.1.2.2.1
  have hG : ∀ r, r < 6 → PM (wN ω) (wG ω r) := k.1.2.2.2.1
  have hP : pok (wN ω) (wP ω) := k.1.2.2.2.2
  refine xgoal [] 100 ok_Mo_tailWord ?_
  have ht4 := hP.2.2.2.1
  obtain ⟨l1, m1, s1, o1⟩ := w.1
  obtain ⟨-, -, -, -, -, -, q7, q8, q9⟩ := pg0.mp w.2.2.1.1
  have q7 : F 163 = nI (ptl (wP ω)) := q7
  have q8 : ∀ l, l < ptl (wP ω) → F (164 + l) = nI (ptn (wP ω) l) := q8
  have q9 : ∀ l, l < ptl (wP ω) → ∀ k, k < ptn (wP ω) l → F (168 + 3 * l + k) = nI (ptw (wP ω) l k) := q9
  refine xgf o1 rfl ?_
  refine xal w.2.1 rfl (show 163 < 1620 by omega) (by decide) ?_
  have sp := sp_Mo_in a (nI 0) (nI (ptl (wP ω)) - nI 1) h
  rw [in_ib (by omega), ← q7] at sp
  refine xci sp ?_
  refine gdX (fun z => ?_) (fun l hl e hlt => ?_)
  · rw [gdN z] at hO; exact bad _ hO
  subst e
  rw [gdS hl] at hO
  have h3 := (hP.2.2.2.2.1 l hlt).2
  refine And.intro (fun z3 => ?_) (fun z3 => ?_)
  · rw [Int32.le_iff_toInt_le, nI_toInt (by omega)] at z3
    rw [if_neg (by omega)] at hO
    refine xgf o1 rfl ?_
    refine xal w.2.1 (nI_add 164 l) (show 164 + l < 1620 by omega) (by decide) ?_
    refine And.intro (fun z4 => ?_) (fun z4 => ?_)
    · rw [q8 l hlt] at z4
      rw [ix_ge (by omega) z4] at hO
      exact bad _ hO
    · rw [q8 l hlt] at z4
      obtain ⟨x, hx⟩ := ix_in (m := ptn (wP ω) l) (x := b) (by omega) (by rw [Int32.lt_iff_toInt_lt, nI_toInt (by omega)]; omega) z4
      obtain ⟨e, hxn⟩ := ix_some hx
      subst e
      rw [hx] at hO
      refine xgf o1 rfl ?_
      have ei : nI 168 + nI 3 * nI l + nI x = nI (168 + 3 * l + x) := by rw [n_mul, nI_add, nI_add]
      refine xal w.2.1 ei (show 168 + 3 * l + x < 1620 by omega) (by decide) ?_
      exact bad _ (by rw [q9 l hlt x hxn]; exact hO)
  · rw [Int32.le_iff_toInt_le, nI_toInt (by omega)] at z3
    rw [if_pos (by omega)] at hO
    exact bad _ hO
theorem sp_Mo_takesVerse {h : xHp} {B s : Nat} {ω : Wv} {F tx : Nat → Int32} (w : isMF h B ω F tx) (k : wok ω) (hs : s < pc (wP ω)) : SpecR g_Mo_takesVerse [.ref B, .int (nI s)] h (fun v h' => v = none ∧ isMF h' B ω F tx ∧ isRw h' (B + 11) (wN ω) (pst (wP ω) s) ∧ frm h h' (B + 11) (B + 12)) := by
  obtain ⟨fs, hrc⟩ := bM_rc w.b
  have hn : wN ω ≤ 7 := k.1.2.1
  have hc8 : pc (wP ω) ≤ 8 := k.1.2.2.2.2.1
  have q5 := (pg0.mp w.2.2.1.1).2.2.2.2.1
  obtain ⟨u0, u01⟩ := w.2.2.2.2 11 (by omega) (by omega)
  refine SpecR.of (by decide +kernel) (Nat.le_of_ble_eq_true rfl) (fun c hc => by cases hc; exact ⟨_, _, _, rfl, hrc⟩) (fun v h' z => ⟨z.1, z.2.2.2.1, z.2.2.2.2.1⟩) (fun Q hQ => ?_)
  refine xgoal [(2, [0, 1, 2])] 100 ok_Mo_takesVerse ?_
  refine up_loop (P := fun i => ∀ (k1 : xHp) (u : Nat → Int32), frm h k1 (B + 11) (B + 12) → xat k1 (B + 11) (xia 7 u) → (∀ j, j < i → u j = nI (pst (wP ω) s j)) → xAt (h.1, h.2.1) g_Mo_takesVerse Q 2 [(0, .ref B), (1, .int (nI s)), (2, .int (nI i))] [] k1) (wN ω) ?_ (fun i hi ih => ?_) 0 (Nat.zero_le _) h u0 frm_rf u01 (fun j hj => absurd hj (Nat.not_lt_zero j))
  · intro k1 u fr1 g1 e1
    have w1 := w.sc (c := 11) fr1 (by omega) ⟨u, g1⟩
    refine xgoal [(2, [0, 1, 2])] 100 ok_Mo_takesVerse ?_
    refine xci (sp_Mo_size w1.b) ?_
    exact pk_le (wN ω) (wN ω) (fun _ => hQ _ _ ⟨rfl, w1, ⟨u, g1, e1⟩, fr1⟩) (fun z => absurd z (by omega))
  · intro k1 u fr1 g1 e1
    have w1 := w.sc (c := 11) fr1 (by omega) ⟨u, g1⟩
    obtain ⟨l1, m1, s1, o1⟩ := w1.1
    refine xgoal [(2, [0, 1, 2])] 100 ok_Mo_takesVerse ?_
    refine xci (sp_Mo_size w1.b) ?_
    refine pk_le (wN ω) i (fun z => absurd z (by omega)) (fun _ => ?_)
    refine xgf o1 rfl ?_
    refine xgf o1 rfl ?_
    refine xci (sp_Mo_placeOf (s := s) (i := i) w1.b) ?_
    refine xal w1.2.1 (nI_add 51 (7 * s + i)) (show 51 + (7 * s + i) < 1620 by omega) (by decide) ?_
    refine xal g1 rfl (show i < 7 by omega) (by decide) ?_
    have hv : F (51 + (7 * s + i)) = nI (pst (wP ω) s i) := by rw [← Nat.add_assoc]; exact q5 s hs i hi
    have ih := ih (xset k1 (B + 11) (xia 7 (upd u i (F (51 + (7 * s + i)))))) _ (frm_set fr1 (by omega) (by omega)) (xat_sf g1.1) (fun j hj => by
      unfold upd
      by_cases e : j = i
      · rw [if_pos e, hv, e]
      · rw [if_neg e]; exact e1 j (by omega))
    rw [← nI_1 i] at ih
    exact ih
theorem sp_Mo_soundAt {h : xHp} {B i : Nat} {ω : Wv} {F tx : Nat → Int32} {g : Nat → Nat} (w : isMF h B ω F tx) (hn : wN ω ≤ 7) (hg : isRw h (B + 11) (wN ω) g) (hi : i < wN ω) (hgi : g i < wN ω) : Spec g_Mo_soundAt [.ref B, .int (nI i)] h (some (.int (nI (sS ω.1 (g i))))) h := by
  obtain ⟨fs, hrc⟩ := bM_rc w.b
  obtain ⟨l1, m1, s1, o1⟩ := w.1
  have q2 := (pg0.mp w.2.2.1.1).2.1
  obtain ⟨u, u1, u2⟩ := hg
  refine Spec.of (by decide +kernel) (Nat.le_of_ble_eq_true rfl) ⟨_, rfl⟩ rfl rfl (fun c hc => by cases hc; exact ⟨_, _, _, rfl, hrc⟩) (fun Q hQ => ?_)
  refine xgoal [] 100 ok_Mo_soundAt ?_
  refine xgf o1 rfl ?_
  refine xgf o1 rfl ?_
  refine xal u1 rfl (show i < 7 by omega) (by decide) ?_
  have ei : nI 1 + u i = nI (1 + g i) := by rw [u2 i hi, nI_add]
  refine xal w.2.1 ei (show 1 + g i < 1620 by omega) (by decide) ?_
  rw [← q2 (g i) hgi] at hQ
  exact hQ
theorem sp_Mo_schemeOfVerse {h : xHp} {B : Nat} {ω : Wv} {F tx : Nat → Int32} {g : Nat → Nat} (w : isMF h B ω F tx) (k : wok ω) (hg : isRw h (B + 11) (wN ω) g) (hgi : ∀ i, i < wN ω → g i < wN ω) : Spec g_Mo_schemeOfVerse [.ref B] h (some (.int (nI (patA (fun i => sS ω.1 (g i)) (wN ω))))) h := by
  obtain ⟨fs, hrc⟩ := bM_rc w.b
  have hn : wN ω ≤ 7 := k.1.2.1
  have hS : ∀ i, i < wN ω → sS ω.1 i < 4 := k.1.2.2.1
  generalize hz : (fun i => sS ω.1 (g i)) = z
  have hsp : ∀ i, i < wN ω → Spec g_Mo_soundAt [.ref B, .int (nI i)] h (some (.int (nI (z i)))) h := fun i hi => by
    rw [← hz]; exact sp_Mo_soundAt w hn hg hi (hgi i hi)
  have hz4 : ∀ i, i < wN ω → z i < 4 := fun i hi => by rw [← hz]; exact hS _ (hgi i hi)
  refine Spec.of (by decide +kernel) (Nat.le_of_ble_eq_true rfl) ⟨_, rfl⟩ rfl rfl (fun c hc => by cases hc; exact ⟨_, _, _, rfl, hrc⟩) (fun Q hQ => ?_)
  refine xgoal [(4, [0, 1, 2])] 100 ok_Mo_schemeOfVerse ?_
  refine up_loop (P := fun i => xAt (h.1, h.2.1) g_Mo_schemeOfVerse Q 4 [(0, .ref B), (1, .int (nI (patA z i))), (2, .int (nI i))] [] h) (wN ω) ?_ (fun i hi ih => ?_) 0 (Nat.zero_le _)
  · refine xgoal [(4, [0, 1, 2])] 100 ok_Mo_schemeOfVerse ?_
    refine xci (sp_Mo_size w.b) ?_
    exact pk_le (wN ω) (wN ω) (fun _ => hQ) (fun z => absurd z (by omega))
  · unfold patA at ih
    have hfr := frh_le z i
    rw [Nat.mul_comm (patA z i) 7, ← nI_add, ← n_mul, ← nI_1 i] at ih
    refine xgoal [(4, [0, 1, 2]), (14, [0, 1, 2, 3])] 100 ok_Mo_schemeOfVerse ?_
    refine xci (sp_Mo_size w.b) ?_
    refine pk_le (wN ω) i (fun z => absurd z (by omega)) (fun _ => ?_)
    refine up_loop (P := fun x => xAt (h.1, h.2.1) g_Mo_schemeOfVerse Q 14 [(0, .ref B), (1, .int (nI (patA z i))), (2, .int (nI i)), (3, .int (nI x))] [] h) (frh z i) ?_ (fun x hx ih2 => ?_) 0 (Nat.zero_le _)
    · refine xgoal [(4, [0, 1, 2]), (14, [0, 1, 2, 3])] 100 ok_Mo_schemeOfVerse ?_
      refine pk_le i (frh z i) (fun _ => ih) (fun c => ?_)
      have hy := sr_yes (fun k => decide (z k = z i)) i 0 (by unfold frh at c; omega)
      have hy : z (frh z i) = z i := of_decide_eq_true hy
      have b1 := hz4 (frh z i) (by omega)
      have b2 := hz4 i hi
      refine xci (hsp (frh z i) (by omega)) ?_
      refine xci (hsp i hi) ?_
      exact pk_eq (z (frh z i)) (z i) (fun _ => ih) (fun d => absurd hy d)
    · have hno := sr_no (fun k => decide (z k = z i)) i 0 x (Nat.zero_le _) hx
      have hno : ¬ z x = z i := of_decide_eq_false hno
      have b1 := hz4 x (by omega)
      have b2 := hz4 i hi
      rw [← nI_1 x] at ih2
      refine xgoal [(14, [0, 1, 2, 3])] 100 ok_Mo_schemeOfVerse ?_
      refine pk_le i x (fun c => absurd c (by omega)) (fun _ => ?_)
      refine xci (hsp x (by omega)) ?_
      refine xci (hsp i hi) ?_
      exact pk_eq (z x) (z i) (fun d => absurd d hno) (fun _ => ih2)
theorem sp_Mo_scheme {h : xHp} {B : Nat} {ω : Wv} {s : Int32} (w : isM h B ω) (k : wok ω) : SpecR g_Mo_scheme [.ref B, .int s] h (pM h B (stScheme ω s)) := by
  obtain ⟨F, tx, w⟩ := w
  obtain ⟨fs, hrc⟩ := bM_rc w.b
  refine SpecR.of (by decide +kernel) (Nat.le_of_ble_eq_true rfl) (fun c hc => by cases hc; exact ⟨_, _, _, rfl, hrc⟩) (fun v h' z => ⟨⟨_, z.1⟩, z.2.2.1, z.2.2.2.1⟩) (fun Q hQ => ?_)
  generalize hO : stScheme ω s = o at hQ
  unfold stScheme at hO
  have bad : ∀ c, (c, ω) = o → Q (some (.int c)) h := fun c e => by subst e; exact hQ _ _ ⟨rfl, ⟨F, tx, w⟩, frm_rf⟩
  have fin : ∀ (v : Int32) (ω' : Wv) (h' : xHp) (F' tx' : Nat → Int32), (v, ω') = o → isMF h' B ω' F' tx' → frm h h' B (B + 14) → Q (some (.int v)) h' := fun v ω' h' F' tx' e w' f => by subst e; exact hQ _ _ ⟨rfl, ⟨F', tx', w'⟩, f⟩
  have hn1 : 2 ≤ wN ω := k.1.1
  have hn : wN ω ≤ 7 := k.1.2.1
  have hS : ∀ i, i < wN ω → sS ω.1 i < 4 := k.1.2.2.1
  have hG : ∀ r, r < 6 → PM (wN ω) (wG ω r) := k.1.2.2.2.1
  have hP : pok (wN ω) (wP ω) := k.1.2.2.2.2
  refine xgoal [] 100 ok_Mo_scheme ?_
  have hc8 := hP.1
  have p0 := pg0.mp w.2.2.1.1
  refine xci (sp_Mo_isStanza (p := pc (wP ω)) s w.b p0.2.2.2.1 hc8) ?_
  refine gdX (fun z => ?_) (fun a ha e hlt => ?_)
  · rw [gdN z] at hO; exact bad _ hO
  subst e
  rw [gdS ha] at hO
  refine xrv (sp_Mo_takesVerse w k hlt) ?_
  rintro h1 ⟨-, w1, r1, fr1⟩
  refine xci (sp_Mo_schemeOfVerse w1 k r1 (hP.2.1 a hlt)) ?_
  exact fin _ _ _ _ tx hO w1 (frm_wd fr1 (by omega) (by omega))
