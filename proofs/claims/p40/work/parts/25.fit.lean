/-! the class's Fit -/
def isFit (h : xHp) (a n : Nat) (KP : Nat → Nat → Nat) (AL : Nat → Nat) : Prop :=
  xat h a (xob 0 [.int (nI n), .ref (a + 1), .ref (a + 2), .ref (a + 3)]) ∧ (∃ f, xat h (a + 1) (xia 64 f) ∧ ∀ l w, l < n → w < n → f (8 * l + w) = nI (KP l w)) ∧
  (∃ f, xat h (a + 2) (xia 8 f) ∧ ∀ l, l < n → f l = nI (AL l)) ∧ ∃ f, xat h (a + 3) (xia 128 f)
/-- the table of the most places, from u on -/
def isMo (h : xHp) (a n u : Nat) (M : Nat → Nat) : Prop := ∃ f, xat h (a + 3) (xia 128 f) ∧ ∀ x, u ≤ x → x < 2 ^ n → f x = fI (M x)
def shFit (h : xHp) (a : Nat) : Prop := ∃ (n : Int32) (f1 f2 f3 : Nat → Int32), xat h a (xob 0 [.int n, .ref (a + 1), .ref (a + 2), .ref (a + 3)]) ∧ xat h (a + 1) (xia 64 f1) ∧ xat h (a + 2) (xia 8 f2) ∧ xat h (a + 3) (xia 128 f3)
theorem isFit.sh {h : xHp} {a n : Nat} {KP : Nat → Nat → Nat} {AL : Nat → Nat} (hs : isFit h a n KP AL) : shFit h a := by
  obtain ⟨h0, ⟨f1, h1, -⟩, ⟨f2, h2, -⟩, ⟨f3, h3⟩⟩ := hs
  exact ⟨_, f1, f2, f3, h0, h1, h2, h3⟩
theorem shFit.fr {h h' : xHp} {a lo hi : Nat} (hp : shFit h a) (f : frm h h' lo hi) (hd : a + 4 ≤ lo ∨ hi ≤ a) : shFit h' a := by
  obtain ⟨n, f1, f2, f3, h0, h1, h2, h3⟩ := hp
  exact ⟨n, f1, f2, f3, xat_fr h0 f (by omega), xat_fr h1 f (by omega), xat_fr h2 f (by omega), xat_fr h3 f (by omega)⟩
theorem isFit.fr3 {h h' : xHp} {a n : Nat} {KP : Nat → Nat → Nat} {AL : Nat → Nat} (hs : isFit h a n KP AL) (f : frm h h' (a + 3) (a + 4)) (hx : ∃ f, xat h' (a + 3) (xia 128 f)) : isFit h' a n KP AL := by
  obtain ⟨h0, ⟨f1, h1, r1⟩, ⟨f2, h2, r2⟩, -⟩ := hs
  exact ⟨xat_fr h0 f (by omega), ⟨f1, xat_fr h1 f (by omega), r1⟩, ⟨f2, xat_fr h2 f (by omega), r2⟩, hx⟩
theorem n_ix : ∀ l, l < 8 → ∀ w, w < 8 → nI l <<< (nI 3 &&& 31) ||| nI w = nI (8 * l + w) := by decide +kernel
theorem n_bit1 {w : Nat} (hw : w < 32) : nI 1 <<< (nI w &&& 31) = nI (2 ^ w) := by rw [n_shl _ _ hw, Nat.one_mul]
theorem fI_1 (v : Nat) : fI (v + 1) = nI v := rfl
theorem fI_eq0 {v : Nat} (hv : v < 2147483648) : fI v = -1 ↔ v = 0 := by
  unfold fI
  by_cases c : v = 0
  · rw [if_pos c]; exact ⟨fun _ => c, fun _ => rfl⟩
  · rw [if_neg c]; exact ⟨fun z => absurd z (nI_m1 (by omega)), fun z => absurd z c⟩
theorem fI_inj {v w : Nat} (hv : v < 2147483648) (hw : w < 2147483648) : fI v = fI w ↔ v = w := by
  unfold fI
  by_cases c : v = 0
  · by_cases c2 : w = 0
    · rw [if_pos c, if_pos c2]; exact ⟨fun _ => by omega, fun _ => rfl⟩
    · rw [if_pos c, if_neg c2]; exact ⟨fun z => absurd z.symm (nI_m1 (by omega)), fun z => by omega⟩
  · by_cases c2 : w = 0
    · rw [if_neg c, if_pos c2]; exact ⟨fun z => absurd z (nI_m1 (by omega)), fun z => by omega⟩
    · rw [if_neg c, if_neg c2, nI_eq (by omega) (by omega)]; omega
theorem m1_lt {v : Nat} (hv : v < 2147483648) : (-1 : Int32) < nI v := by
  rw [Int32.lt_iff_toInt_lt, nI_toInt hv, show (-1 : Int32).toInt = -1 by decide]
  omega
theorem fI_lt {v w : Nat} (hv : v < 2147483648) (hw : w < 2147483648) : fI v < fI w ↔ v < w := by
  unfold fI
  by_cases c : v = 0
  · by_cases c2 : w = 0
    · rw [if_pos c, if_pos c2]
      exact ⟨fun z => absurd z (by decide), fun z => by omega⟩
    · rw [if_pos c, if_neg c2]; exact ⟨fun _ => by omega, fun _ => m1_lt (by omega)⟩
  · by_cases c2 : w = 0
    · rw [if_neg c, if_pos c2]
      refine ⟨fun z => ?_, fun z => by omega⟩
      have := m1_lt (v := v - 1) (by omega)
      rw [Int32.lt_iff_toInt_lt] at z this
      omega
    · rw [if_neg c, if_neg c2, nI_ltI (by omega) (by omega)]; omega
theorem fI_max {v w : Nat} (hv : v < 2147483648) (hw : w < 2147483648) : (if fI v < fI w then fI w else fI v) = fI (max v w) := by
  by_cases h : v < w
  · rw [if_pos ((fI_lt hv hw).mpr h), Nat.max_eq_right (by omega)]
  · rw [if_neg (fun z => h ((fI_lt hv hw).mp z)), Nat.max_eq_left (by omega)]
/-- the bounds under which the tables are read -/
def fitB (n : Nat) (KP : Nat → Nat → Nat) (AL : Nat → Nat) : Prop := n ≤ 7 ∧ (∀ l w, l < n → w < n → KP l w ≤ 56) ∧ ∀ l, l < n → AL l < 128
theorem fitB_le {n : Nat} {KP : Nat → Nat → Nat} {AL : Nat → Nat} (hB : fitB n KP AL) {u : Nat} (hu : u < 2 ^ n) : mM n KP AL u ≤ 393 := by
  have h1 := mM_le (AL := AL) hB.1 hB.2.1 u hu
  have h2 : (n - pop u) * 56 ≤ 7 * 56 := Nat.mul_le_mul_right 56 (by have := hB.1; omega)
  omega
theorem sp_Fit_keptWith {h : xHp} {a n l w u : Nat} {KP : Nat → Nat → Nat} {AL : Nat → Nat} (hs : isFit h a n KP AL) (hB : fitB n KP AL) (hm : isMo h a n (u + 1) (mM n KP AL)) (hl : l < n) (hw : w < n) (hu : u < 2 ^ n) : Spec g_Fit_keptWith [.ref a, .int (nI l), .int (nI w), .int (nI u)] h (some (.int (fI (kw KP AL (mM n KP AL) l w u)))) h := by
  obtain ⟨h0, ⟨f1, h1, r1⟩, ⟨f2, h2, r2⟩, -⟩ := hs
  obtain ⟨f3, h3, r3⟩ := hm
  obtain ⟨hn, hB1, hB2⟩ := hB
  have h7 := p2_7 hn
  have e1 := n_bit1 (w := w) (by omega)
  refine Spec.of (by decide +kernel) (Nat.le_of_ble_eq_true rfl) ⟨_, rfl⟩ rfl rfl (fun c hc => by cases hc; exact ⟨_, _, _, rfl, h0⟩) (fun Q hQ => ?_)
  refine xgoal [] 100 ok_Fit_keptWith ?_
  have ea : nI u &&& (nI 1 <<< (nI w &&& 31)) = nI (u &&& 2 ^ w) := by rw [e1, n_and]
  have eb : nI (AL l) &&& (nI 1 <<< (nI w &&& 31)) = nI (AL l &&& 2 ^ w) := by rw [e1, n_and]
  have la : u &&& 2 ^ w ≤ u := Nat.and_le_left
  have lb : AL l &&& 2 ^ w ≤ AL l := Nat.and_le_left
  have hAL := hB2 l hl
  unfold kw at hQ
  refine pk_eq (u &&& 2 ^ w) 0 (fun c1 => ?_) (fun c1 => ?_) ea rfl
  · have c1 := (and_tab u (by omega) w (by omega)).mp c1
    refine xgf h0 rfl ?_
    refine xal h2 rfl (show l < 8 by omega) (by decide) ?_
    refine pk_eq (AL l &&& 2 ^ w) 0 (fun c2 => ?_) (fun c2 => ?_) (by rw [r2 l hl]; exact eb) rfl
    · have c2 := (and_tab (AL l) (by omega) w (by omega)).mp c2
      rw [if_pos (Or.inr (Or.inl c2))] at hQ
      exact hQ
    · have c2 : AL l / 2 ^ w % 2 = 1 := Classical.byContradiction fun z => c2 ((and_tab (AL l) (by omega) w (by omega)).mpr z)
      obtain ⟨g1, g2, g3⟩ := or_up hn hu hw c1
      have ec : nI u ||| (nI 1 <<< (nI w &&& 31)) = nI (u ||| 2 ^ w) := by rw [e1, n_or]
      have hM := fitB_le (KP := KP) (AL := AL) ⟨hn, hB1, hB2⟩ g2
      refine xgf h0 rfl ?_
      refine xal h3 ec (show u ||| 2 ^ w < 128 by omega) (by decide) ?_
      have er := r3 (u ||| 2 ^ w) (by omega) g2
      refine And.intro (fun c3 => ?_) (fun c3 => ?_)
      · rw [er, fI_eq0 (by omega)] at c3
        rw [if_pos (Or.inr (Or.inr c3))] at hQ
        exact hQ
      · rw [er, fI_eq0 (by omega)] at c3
        rw [if_neg (fun z => z.elim c1 (fun z => z.elim (fun z => z c2) c3))] at hQ
        refine xgf h0 rfl ?_
        refine xal h1 (n_ix l (by omega) w (by omega)) (show 8 * l + w < 64 by omega) (by decide) ?_
        refine xgf h0 rfl ?_
        refine xal h3 ec (show u ||| 2 ^ w < 128 by omega) (by decide) ?_
        have e9 : f1 (8 * l + w) + f3 (u ||| 2 ^ w) = fI (KP l w + mM n KP AL (u ||| 2 ^ w)) := by
          rw [r1 l w hl hw, er]
          unfold fI
          rw [if_neg c3, if_neg (by omega), nI_add]
          congr 1
          omega
        rw [← e9] at hQ
        exact hQ
  · have c1 : u / 2 ^ w % 2 = 1 := Classical.byContradiction fun z => c1 ((and_tab u (by omega) w (by omega)).mpr z)
    rw [if_pos (Or.inl c1)] at hQ
    exact hQ
theorem kw_le {n l w u : Nat} {KP : Nat → Nat → Nat} {AL : Nat → Nat} (hB : fitB n KP AL) (hl : l < n) (hw : w < n) (hu : u < 2 ^ n) : kw KP AL (mM n KP AL) l w u ≤ 449 := by
  unfold kw
  split
  · omega
  · rename_i c
    obtain ⟨-, g2, -⟩ := or_up hB.1 hu hw (fun z => c (Or.inl z))
    have := fitB_le hB g2
    have := hB.2.1 l w hl hw
    omega
theorem mw_le2 {n l u : Nat} {KP : Nat → Nat → Nat} {AL : Nat → Nat} (hB : fitB n KP AL) (hl : l < n) (hu : u < 2 ^ n) : ∀ m, m ≤ n → mw KP AL (mM n KP AL) l u m ≤ 449 := fun m hm => mw_le (fun w hw => kw_le hB hl (by omega) hu)
theorem sp_Fit_mostKept {h : xHp} {a n : Nat} {KP : Nat → Nat → Nat} {AL : Nat → Nat} (hs : isFit h a n KP AL) (hn1 : 1 ≤ n) (hB : fitB n KP AL) : SpecR g_Fit_mostKept [.ref a] h (fun v h' => v = some (.int (fI (mM n KP AL 0))) ∧ isFit h' a n KP AL ∧ isMo h' a n 0 (mM n KP AL) ∧ frm h h' (a + 3) (a + 4)) := by
  have h0 := hs.1
  obtain ⟨f3, h3⟩ := hs.2.2.2
  have hn := hB.1
  have h7 := p2_7 hn
  have h1 := Nat.two_pow_pos n
  have h2 : 2 ≤ 2 ^ n := Nat.pow_le_pow_right (n := 2) (by omega) hn1
  have ht := pop_tab n (by omega)
  refine SpecR.of (by decide +kernel) (Nat.le_of_ble_eq_true rfl) (fun c hc => by cases hc; exact ⟨_, _, _, rfl, h0⟩) (fun v h' z => ⟨⟨_, z.1⟩, z.2.2.2.1, z.2.2.2.2.1⟩) (fun Q hQ => ?_)
  have at20 : ∀ k, k ≤ 2 ^ n - 1 → ∀ h' : xHp, frm h h' (a + 3) (a + 4) → isMo h' a n (2 ^ n - 1 - k) (mM n KP AL) → xAt (h.1, h.2.1) g_Fit_mostKept Q 20 [(0, .ref a), (2, .int (nI (2 ^ n - 1 - k) + -1))] [] h' := by
    refine up_loop (P := fun k => ∀ h' : xHp, frm h h' (a + 3) (a + 4) → isMo h' a n (2 ^ n - 1 - k) (mM n KP AL) → xAt (h.1, h.2.1) g_Fit_mostKept Q 20 [(0, .ref a), (2, .int (nI (2 ^ n - 1 - k) + -1))] [] h') (2 ^ n - 1) ?_ (fun k hk ih => ?_)
    · intro h' fr hm
      rw [Nat.sub_self] at hm ⊢
      have hm2 := hm
      obtain ⟨f, hf, rf⟩ := hm2
      have hs' := hs.fr3 fr ⟨f, hf⟩
      refine xgoal [(20, [0, 2]), (35, [0, 2, 3, 4, 5])] 100 ok_Fit_mostKept ?_
      refine And.intro (fun _ => ?_) (fun c => absurd (by decide) c)
      refine xgf hs'.1 rfl ?_
      refine xal hf rfl (show 0 < 128 by omega) (by decide) ?_
      have := hQ (some (.int (fI (mM n KP AL 0)))) h' ⟨rfl, hs', hm, fr⟩
      rw [← rf 0 (by omega) h1] at this
      exact this
    · intro h' fr hm
      have hm2 := hm
      obtain ⟨f, hf, rf⟩ := hm2
      have hs' := hs.fr3 fr ⟨f, hf⟩
      have eu : nI (2 ^ n - 1 - k) + -1 = nI (2 ^ n - 2 - k) := by rw [nI_dec (by omega), show 2 ^ n - 1 - k - 1 = 2 ^ n - 2 - k by omega]
      generalize hu : 2 ^ n - 2 - k = u at eu
      have hu1 : 2 ^ n - 1 - k = u + 1 := by omega
      rw [hu1] at hm eu ⊢
      have hpu := (ht.2 u (by omega)).2 (by omega)
      refine xgoal [(20, [0, 2]), (35, [0, 2, 3, 4, 5])] 100 ok_Fit_mostKept ?_
      refine pk_lt u 0 (fun c => absurd c (by omega)) (fun _ => ?_) eu rfl
      have sp := sp_JI_bitCount (x := u) (by omega) h'
      rw [← eu] at sp
      refine xci sp ?_
      refine up_loop (P := fun w => xAt (h.1, h.2.1) g_Fit_mostKept Q 35 [(0, .ref a), (2, .int (nI (u + 1) + -1)), (3, .int (nI (pop u))), (4, .int (fI (mw KP AL (mM n KP AL) (pop u) u w))), (5, .int (nI w))] [] h') n ?_ (fun w hw ihw => ?_) 0 (Nat.zero_le _)
      · refine xgoal [(20, [0, 2]), (35, [0, 2, 3, 4, 5])] 100 ok_Fit_mostKept ?_
        refine xgf hs'.1 rfl ?_
        refine pk_le n n (fun _ => ?_) (fun c => absurd c (by omega))
        refine xgf hs'.1 rfl ?_
        refine xal hf eu (show u < 128 by omega) (by decide) ?_
        have ih := ih (xset h' (a + 3) (xia 128 (upd f u (fI (mw KP AL (mM n KP AL) (pop u) u n))))) (frm_set fr (by omega) (by omega)) ⟨_, xat_sf hf.1, fun x hx1 hx2 => by
          unfold upd
          by_cases e : x = u
          · rw [if_pos e, e, mM_eq hn (by omega)]
          · rw [if_neg e]; exact rf x (by omega) hx2⟩
        rw [show 2 ^ n - 1 - (k + 1) = u by omega, ← eu] at ih
        exact ih
      · have sp := sp_Fit_keptWith hs' hB hm hpu hw (show u < 2 ^ n by omega)
        rw [← eu] at sp
        have b1 := kw_le hB hpu hw (show u < 2 ^ n by omega)
        have b2 := mw_le2 hB hpu (show u < 2 ^ n by omega) w (by omega)
        refine xgoal [(20, [0, 2]), (35, [0, 2, 3, 4, 5])] 100 ok_Fit_mostKept ?_
        refine xgf hs'.1 rfl ?_
        refine pk_le n w (fun c => absurd c (by omega)) (fun _ => ?_)
        refine xci sp ?_
        unfold mw at ihw
        rw [← fI_max (by omega) (by omega), ← nI_1 w] at ihw
        exact ihw
  refine xgoal [(20, [0, 2]), (35, [0, 2, 3, 4, 5])] 100 ok_Fit_mostKept ?_
  have eA : nI 1 <<< (nI n &&& 31) - nI 1 = nI (2 ^ n - 1) := by rw [n_bit1 (by omega), pk_sub (by omega)]
  refine xgf h0 rfl ?_
  refine xgf h0 rfl ?_
  refine xal h3 eA (show 2 ^ n - 1 < 128 by omega) (by decide) ?_
  have key := at20 0 (Nat.zero_le _) (xset h (a + 3) (xia 128 (upd f3 (2 ^ n - 1) (nI 0)))) (frm_set frm_rf (by omega) (by omega)) ⟨_, xat_sf h3.1, fun x hx1 hx2 => by
    have : x = 2 ^ n - 1 := by omega
    unfold upd
    rw [if_pos this, this, mM_top hn]; rfl⟩
  have e2 : nI (2 ^ n - 1 - 0) + -1 = nI 1 <<< (nI n &&& 31) - nI 1 - nI 1 := by rw [eA, Nat.sub_zero, nI_dec (by omega), pk_sub (by omega)]
  rw [e2] at key
  exact key
theorem sp_Fit_firstWord {h : xHp} {a n l u : Nat} {KP : Nat → Nat → Nat} {AL : Nat → Nat} (hs : isFit h a n KP AL) (hB : fitB n KP AL) (hm : isMo h a n 0 (mM n KP AL)) (hl : l = pop u) (hu : u < 2 ^ n - 1) (h0 : mM n KP AL u ≠ 0) : Spec g_Fit_firstWord [.ref a, .int (nI l), .int (nI u)] h (some (.int (nI (fw n KP AL u)))) h := by
  have hn := hB.1
  have h7 := p2_7 hn
  have hpu := ((pop_tab n (by omega)).2 u (by omega)).2 (by omega)
  have g1 := (fw_ok hn hu h0).1
  have hm1 : isMo h a n (u + 1) (mM n KP AL) := by
    obtain ⟨f, hf, rf⟩ := hm
    exact ⟨f, hf, fun x _ hx => rf x (Nat.zero_le _) hx⟩
  obtain ⟨f, hf, rf⟩ := hm
  have er := rf u (Nat.zero_le _) (by omega)
  have bM := fitB_le (KP := KP) (AL := AL) hB (u := u) (by omega)
  subst hl
  refine Spec.of (by decide +kernel) (Nat.le_of_ble_eq_true rfl) ⟨_, rfl⟩ rfl rfl (fun c hc => by cases hc; exact ⟨_, _, _, rfl, hs.1⟩) (fun Q hQ => ?_)
  refine xgoal [(2, [0, 1, 2, 3])] 100 ok_Fit_firstWord ?_
  refine up_loop (P := fun w => fw n KP AL u = sr (fwb n KP AL u) (n - w) w → xAt (h.1, h.2.1) g_Fit_firstWord Q 2 [(0, .ref a), (1, .int (nI (pop u))), (2, .int (nI u)), (3, .int (nI w))] [] h) n (fun he => ?_) (fun w hw ih => ?_) 0 (Nat.zero_le _) rfl
  · rw [Nat.sub_self] at he
    have : fw n KP AL u = n := he
    omega
  · intro he
    rw [show n - w = (n - (w + 1)) + 1 by omega] at he
    unfold sr at he
    have bk := kw_le (KP := KP) (AL := AL) hB hpu hw (show u < 2 ^ n by omega)
    refine xgoal [(2, [0, 1, 2, 3])] 100 ok_Fit_firstWord ?_
    refine xgf hs.1 rfl ?_
    refine pk_le n w (fun c => absurd c (by omega)) (fun _ => ?_)
    refine xgf hs.1 rfl ?_
    refine xal hf rfl (show u < 128 by omega) (by decide) ?_
    refine And.intro (fun c => absurd c (by rw [er, fI_eq0 (by omega)]; exact h0)) (fun _ => ?_)
    refine xci (sp_Fit_keptWith hs hB hm1 hpu hw (by omega)) ?_
    refine xgf hs.1 rfl ?_
    refine xal hf rfl (show u < 128 by omega) (by decide) ?_
    refine And.intro (fun c => ?_) (fun c => ?_)
    · rw [er, fI_inj (by omega) (by omega)] at c
      rw [if_pos (show fwb n KP AL u w = true from decide_eq_true c)] at he
      rw [he] at hQ
      exact hQ
    · rw [er, fI_inj (by omega) (by omega)] at c
      rw [if_neg (show ¬ fwb n KP AL u w = true from fun z => c (of_decide_eq_true z))] at he
      have ih := ih he
      rw [← nI_1 w] at ih
      exact ih
theorem sp_Fit_firstRow {h : xHp} {a n : Nat} {KP : Nat → Nat → Nat} {AL : Nat → Nat} (hs : isFit h a n KP AL) (hB : fitB n KP AL) (hm : isMo h a n 0 (mM n KP AL)) (h0 : mM n KP AL 0 ≠ 0) : Spec g_Fit_firstRow [.ref a] h (some (.int (R (nrm n (frow n KP AL))))) h := by
  have hn := hB.1
  refine Spec.of (by decide +kernel) (Nat.le_of_ble_eq_true rfl) ⟨_, rfl⟩ rfl rfl (fun c hc => by cases hc; exact ⟨_, _, _, rfl, hs.1⟩) (fun Q hQ => ?_)
  refine xgoal [(6, [0, 1, 2, 3])] 100 ok_Fit_firstRow ?_
  refine up_loop (P := fun i => xAt (h.1, h.2.1) g_Fit_firstRow Q 6 [(0, .ref a), (1, .int (R (nrm i (frow n KP AL)))), (2, .int (nI (usd n KP AL i))), (3, .int (nI i))] [] h) n ?_ (fun i hi ih => ?_) 0 (Nat.zero_le _)
  · refine xgoal [(6, [0, 1, 2, 3])] 100 ok_Fit_firstRow ?_
    refine xgf hs.1 rfl ?_
    exact pk_le n n (fun _ => hQ) (fun c => absurd c (by omega))
  · obtain ⟨g1, g2, g3⟩ := usd_lt (KP := KP) (AL := AL) hn h0 hi
    refine xgoal [(6, [0, 1, 2, 3])] 100 ok_Fit_firstRow ?_
    refine xgf hs.1 rfl ?_
    refine pk_le n i (fun c => absurd c (by omega)) (fun _ => ?_)
    refine xci (sp_Fit_firstWord hs hB hm g2.symm g1 g3) ?_
    have hfw := frow_lt (KP := KP) (AL := AL) hn h0 hi
    have sp := sp_Row_with (f := nrm i (frow n KP AL)) (i := i) (v := frow n KP AL i) (nrm_b8 (fun j hj => by have := frow_lt (KP := KP) (AL := AL) hn h0 (show j < n by omega); omega)) (by omega) (by omega) h
    rw [R_push] at sp
    refine xci sp ?_
    have e : nI (usd n KP AL (i + 1)) = nI (usd n KP AL i) ||| (nI 1 <<< (nI (fw n KP AL (usd n KP AL i)) &&& 31)) := by
      have : fw n KP AL (usd n KP AL i) < n := hfw
      rw [n_bit1 (by omega), n_or]; rfl
    rw [e, ← nI_1 i] at ih
    exact ih
theorem sp_Fit_mostOfLine {h : xHp} {a n l : Nat} {KP : Nat → Nat → Nat} {AL : Nat → Nat} (hs : isFit h a n KP AL) (hB : fitB n KP AL) (hl : l < n) : Spec g_Fit_mostOfLine [.ref a, .int (nI l)] h (some (.int (nI (mol n KP l)))) h := by
  obtain ⟨h0, ⟨f1, h1, r1⟩, -⟩ := hs
  obtain ⟨hn, hB1, -⟩ := hB
  refine Spec.of (by decide +kernel) (Nat.le_of_ble_eq_true rfl) ⟨_, rfl⟩ rfl rfl (fun c hc => by cases hc; exact ⟨_, _, _, rfl, h0⟩) (fun Q hQ => ?_)
  refine xgoal [(4, [0, 1, 2, 3])] 100 ok_Fit_mostOfLine ?_
  refine up_loop (P := fun w => xAt (h.1, h.2.1) g_Fit_mostOfLine Q 4 [(0, .ref a), (1, .int (nI l)), (2, .int (nI (maxN (fun w => KP l w) w))), (3, .int (nI w))] [] h) n ?_ (fun w hw ih => ?_) 0 (Nat.zero_le _)
  · refine xgoal [(4, [0, 1, 2, 3])] 100 ok_Fit_mostOfLine ?_
    refine xgf h0 rfl ?_
    exact pk_le n n (fun _ => hQ) (fun c => absurd c (by omega))
  · have b1 := hB1 l w hl hw
    have b2 : maxN (fun w => KP l w) w ≤ 56 := maxN_le (fun v hv => hB1 l v hl (by omega))
    refine xgoal [(4, [0, 1, 2, 3])] 100 ok_Fit_mostOfLine ?_
    refine xgf h0 rfl ?_
    refine pk_le n w (fun c => absurd c (by omega)) (fun _ => ?_)
    refine xgf h0 rfl ?_
    refine xal h1 (n_ix l (by omega) w (by omega)) (show 8 * l + w < 64 by omega) (by decide) ?_
    unfold maxN at ih
    rw [← nI_max (by omega) (by omega), ← nI_1 w, ← r1 l w hl hw] at ih
    exact ih
theorem sp_Fit_mostOfWord {h : xHp} {a n w : Nat} {KP : Nat → Nat → Nat} {AL : Nat → Nat} (hs : isFit h a n KP AL) (hB : fitB n KP AL) (hw : w < n) : Spec g_Fit_mostOfWord [.ref a, .int (nI w)] h (some (.int (nI (moW n KP w)))) h := by
  obtain ⟨h0, ⟨f1, h1, r1⟩, -⟩ := hs
  obtain ⟨hn, hB1, -⟩ := hB
  refine Spec.of (by decide +kernel) (Nat.le_of_ble_eq_true rfl) ⟨_, rfl⟩ rfl rfl (fun c hc => by cases hc; exact ⟨_, _, _, rfl, h0⟩) (fun Q hQ => ?_)
  refine xgoal [(4, [0, 1, 2, 3])] 100 ok_Fit_mostOfWord ?_
  refine up_loop (P := fun l => xAt (h.1, h.2.1) g_Fit_mostOfWord Q 4 [(0, .ref a), (1, .int (nI w)), (2, .int (nI (maxN (fun l => KP l w) l))), (3, .int (nI l))] [] h) n ?_ (fun l hl ih => ?_) 0 (Nat.zero_le _)
  · refine xgoal [(4, [0, 1, 2, 3])] 100 ok_Fit_mostOfWord ?_
    refine xgf h0 rfl ?_
    exact pk_le n n (fun _ => hQ) (fun c => absurd c (by omega))
  · have b1 := hB1 l w hl hw
    have b2 : maxN (fun l => KP l w) l ≤ 56 := maxN_le (fun v hv => hB1 v w (by omega) hw)
    refine xgoal [(4, [0, 1, 2, 3])] 100 ok_Fit_mostOfWord ?_
    refine xgf h0 rfl ?_
    refine pk_le n l (fun c => absurd c (by omega)) (fun _ => ?_)
    refine xgf h0 rfl ?_
    refine xal h1 (n_ix l (by omega) w (by omega)) (show 8 * l + w < 64 by omega) (by decide) ?_
    unfold maxN at ih
    rw [← nI_max (by omega) (by omega), ← nI_1 l, ← r1 l w hl hw] at ih
    exact ih
theorem sp_Fit_atMostKept {h : xHp} {a n : Nat} {KP : Nat → Nat → Nat} {AL : Nat → Nat} (hs : isFit h a n KP AL) (hB : fitB n KP AL) : Spec g_Fit_atMostKept [.ref a] h (some (.int (nI (atm n KP)))) h := by
  have h0 := hs.1
  have hn := hB.1
  have b1 : ∀ i, i ≤ n → sumN (mol n KP) i ≤ i * 56 := fun i hi => sumN_bd (fun l hl => maxN_le (fun w hw => hB.2.1 l w (by omega) hw))
  have b2 : ∀ i, i ≤ n → sumN (moW n KP) i ≤ i * 56 := fun i hi => sumN_bd (fun w hw => maxN_le (fun l hl => hB.2.1 l w hl (by omega)))
  refine Spec.of (by decide +kernel) (Nat.le_of_ble_eq_true rfl) ⟨_, rfl⟩ rfl rfl (fun c hc => by cases hc; exact ⟨_, _, _, rfl, h0⟩) (fun Q hQ => ?_)
  refine xgoal [(6, [0, 1, 2, 3])] 100 ok_Fit_atMostKept ?_
  refine up_loop (P := fun i => xAt (h.1, h.2.1) g_Fit_atMostKept Q 6 [(0, .ref a), (1, .int (nI (sumN (mol n KP) i))), (2, .int (nI (sumN (moW n KP) i))), (3, .int (nI i))] [] h) n ?_ (fun i hi ih => ?_) 0 (Nat.zero_le _)
  · have c1 := b1 n (Nat.le_refl _)
    have c2 := b2 n (Nat.le_refl _)
    refine xgoal [(6, [0, 1, 2, 3])] 100 ok_Fit_atMostKept ?_
    refine xgf h0 rfl ?_
    unfold atm at hQ
    rw [← nI_min (by omega) (by omega)] at hQ
    exact pk_le n n (fun _ => hQ) (fun c => absurd c (by omega))
  · refine xgoal [(6, [0, 1, 2, 3])] 100 ok_Fit_atMostKept ?_
    refine xgf h0 rfl ?_
    refine pk_le n i (fun c => absurd c (by omega)) (fun _ => ?_)
    refine xci (sp_Fit_mostOfLine hs hB hi) ?_
    refine xci (sp_Fit_mostOfWord hs hB hi) ?_
    unfold sumN at ih
    rw [← nI_add, ← nI_add, ← nI_1 i] at ih
    exact ih
