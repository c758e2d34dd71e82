/-! Permutation: the class's methods -/
theorem xset_id {h : xHp} {a : Nat} {e : xE} (ha : xat h a e) : xset h a e = h := by
  obtain ⟨N, S, f⟩ := h
  unfold xset
  congr 2
  funext j
  unfold va_up
  by_cases hj : j = a
  · rw [if_pos hj, hj]; exact ha.2.symm
  · rw [if_neg hj]
theorem xset_set {h : xHp} {a : Nat} {e e' : xE} : xset (xset h a e) a e' = xset h a e' := by
  obtain ⟨N, S, f⟩ := h
  unfold xset
  congr 2
  funext j
  show (if j = a then e' else if j = a then e else f j) = if j = a then e' else f j
  by_cases hj : j = a
  · rw [if_pos hj, if_pos hj]
  · rw [if_neg hj, if_neg hj, if_neg hj]
def fil (v : Int32) (n : Nat) (f : Nat → Int32) : Nat → Int32 := fun j => if j < n then v else f j
theorem fil_step (v : Int32) (i : Nat) (f : Nat → Int32) : upd (fil v i f) i v = fil v (i + 1) f := by
  funext j
  unfold upd fil
  by_cases h : j = i
  · subst h; simp
  · rw [if_neg h]
    by_cases h2 : j < i
    · rw [if_pos h2, if_pos (by omega)]
    · rw [if_neg h2, if_neg (by omega)]
theorem sp_JA_fill {h : xHp} {a n : Nat} {f : Nat → Int32} (v : Int32) (ha : xat h a (xia n f)) (hn : n < 2147483648) : Spec g_JA_fill [.ref a, .int v] h none (xset h a (xia n (fil v n f))) := by
  refine Spec.of (by decide +kernel) (Nat.le_of_ble_eq_true rfl) rfl rfl rfl (fun c hc => by cases hc) (fun Q hQ => ?_)
  refine xgoal [(5, [0, 1, 2, 3])] 100 ok_JA_fill ?_
  refine ⟨_, _, ha, ?_⟩
  have key := up_loop (P := fun i => xAt (h.1, h.2.1) g_JA_fill Q 5 [(0, .ref a), (1, .int v), (2, .int (nI i)), (3, .int (nI n))] [] (xset h a (xia n (fil v i f)))) n ?_ (fun i hi ih => ?_) 0 (Nat.zero_le _)
  · have e : xset h a (xia n (fil v 0 f)) = h := xset_id ha
    rw [e] at key
    exact key
  · refine xgoal [(5, [0, 1, 2, 3])] 100 ok_JA_fill ?_
    exact pk_le n n (fun c => hQ) (fun c => absurd c (by omega))
  · refine xgoal [(5, [0, 1, 2, 3])] 100 ok_JA_fill ?_
    refine pk_le n i (fun c => absurd c (by omega)) (fun c => ?_)
    refine xal (xat_self _ ha) rfl hi hn ?_
    rw [← fil_step, ← nI_1 i, ← xset_set] at ih
    exact ih
def bcI (a0 : Int32) : Int32 :=
  let sr (x y : Int32) : Int32 := (x.toUInt32 >>> (y.toUInt32 &&& Int32.toUInt32 31)).toInt32
  let a1 := a0 - (sr a0 (nI 1) &&& nI 1431655765)
  let a2 := (a1 &&& nI 858993459) + (sr a1 (nI 2) &&& nI 858993459)
  let a3 := (a2 + sr a2 (nI 4)) &&& nI 252645135
  let a4 := a3 + sr a3 (nI 8)
  let a5 := a4 + sr a4 (nI 16)
  a5 &&& nI 63
/-- the bits of a number below 256 -/
def pop (x : Nat) : Nat := ct (fun b => x.testBit b) 8
theorem bc_ok : ∀ x, x < 256 → bcI (nI x) = nI (pop x) := by decide +kernel
theorem sp_JI_bitCount {x : Nat} (hx : x < 256) (h : xHp) : Spec g_JI_bitCount [.int (nI x)] h (some (.int (nI (pop x)))) h := by
  refine Spec.of (by decide +kernel) (Nat.le_of_ble_eq_true rfl) ⟨_, rfl⟩ rfl rfl (fun c hc => by cases hc) (fun Q hQ => ?_)
  refine xgoal [] 100 ok_JI_bitCount ?_
  rw [← bc_ok x hx] at hQ
  exact hQ
theorem nI_max {a b : Nat} (ha : a < 2147483648) (hb : b < 2147483648) : (if nI a < nI b then nI b else nI a) = nI (max a b) := by
  by_cases h : a < b
  · rw [if_pos ((nI_ltI ha hb).mpr h), Nat.max_eq_right (by omega)]
  · rw [if_neg (fun z => h ((nI_ltI ha hb).mp z)), Nat.max_eq_left (by omega)]
theorem nI_min {a b : Nat} (ha : a < 2147483648) (hb : b < 2147483648) : (if nI b < nI a then nI b else nI a) = nI (min a b) := by
  by_cases h : b < a
  · rw [if_pos ((nI_ltI hb ha).mpr h), Nat.min_eq_right (by omega)]
  · rw [if_neg (fun z => h ((nI_ltI hb ha).mp z)), Nat.min_eq_left (by omega)]
theorem fct_le {n : Nat} (hn : n ≤ 7) : fct n ≤ 5040 := by
  have : ∀ n, n < 8 → fct n ≤ 5040 := by decide
  exact this n (by omega)
theorem sp_Perm_count {n : Nat} (hn1 : 2 ≤ n) (hn : n ≤ 7) (h : xHp) : Spec g_Perm_count [.int (nI n)] h (some (.int (nI (fct n)))) h := by
  refine Spec.of (by decide +kernel) (Nat.le_of_ble_eq_true rfl) ⟨_, rfl⟩ rfl rfl (fun c hc => by cases hc) (fun Q hQ => ?_)
  refine xgoal [(4, [0, 1, 2])] 100 ok_Perm_count ?_
  refine up_loop (P := fun i => xAt (h.1, h.2.1) g_Perm_count Q 4 [(0, .int (nI n)), (1, .int (nI (fct i))), (2, .int (nI (i + 1)))] [] h) n ?_ (fun i hi ih => ?_) 1 (by omega)
  · refine xgoal [(4, [0, 1, 2])] 100 ok_Perm_count ?_
    exact pk_lt n (n + 1) (fun c => hQ) (fun c => absurd c (by omega))
  · refine xgoal [(4, [0, 1, 2])] 100 ok_Perm_count ?_
    refine pk_lt n (i + 1) (fun c => absurd c (by omega)) (fun c => ?_)
    rw [show fct (i + 1) = fct i * (i + 1) from Nat.mul_comm _ _, ← n_mul, ← nI_1 (i + 1)] at ih
    exact ih
/-! number -/
def lmA (f : Nat → Nat) (n : Nat) : Nat → Nat
  | 0 => 2 ^ n - 1
  | i + 1 => lmA f n i &&& (2 ^ f i ^^^ 4294967295)
def nin (f : Nat → Nat) (b : Nat) : Nat → Bool
  | 0 => true
  | i + 1 => nin f b i && !decide (f i = b)
theorem lm_bit {f : Nat → Nat} {n : Nat} (hn : n ≤ 7) (b : Nat) : ∀ i, (lmA f n i).testBit b = (decide (b < n) && nin f b i)
  | 0 => by simp [lmA, nin, Nat.testBit_two_pow_sub_one]
  | i + 1 => by
    unfold lmA nin
    rw [Nat.testBit_and, lm_bit hn b i, Nat.testBit_xor, show (4294967295 : Nat) = 2 ^ 32 - 1 from rfl, Nat.testBit_two_pow_sub_one, Nat.testBit_two_pow]
    by_cases hb : b < n
    · have h2 : b < 32 := by omega
      simp [hb, h2]
    · simp [hb]
theorem lm_lt {f : Nat → Nat} {n : Nat} (hn : n ≤ 7) (i : Nat) : lmA f n i < 128 := by
  refine Nat.lt_pow_two_of_testBit (n := 7) _ (fun b hb => ?_)
  rw [lm_bit hn]
  have : ¬ b < n := by omega
  simp [this]
theorem lm_ct {f : Nat → Nat} {n v : Nat} (hn : n ≤ 7) (hf : PM n f) (hv : v ≤ n) : ∀ i, i ≤ n → ct (fun b => (lmA f n i).testBit b && decide (b < v)) 8 + ct (fun k => decide (f k < v)) i = v
  | 0, _ => by
    have e : ct (fun b => (lmA f n 0).testBit b && decide (b < v)) 8 = ct (fun b => decide (b < v)) 8 := ct_congr (fun b _ => by
      rw [lm_bit hn]
      by_cases h : b < v
      · have : b < n := by omega
        simp [nin, h, this]
      · simp [h])
    rw [e]
    have : ∀ v, v < 8 → ct (fun b => decide (b < v)) 8 = v := by decide
    rw [this v (by omega)]
    rfl
  | i + 1, h => by
    have ih := lm_ct hn hf hv i (by omega)
    have hi := hf.1 i (by omega)
    have hni : nin f (f i) i = true := by
      have key : ∀ j, j ≤ i → nin f (f i) j = true := by
        intro j
        induction j with
        | zero => intro _; rfl
        | succ j ihj =>
          intro hj
          unfold nin
          rw [ihj (by omega)]
          have : ¬ f j = f i := fun e => by have := hf.2 j i (by omega) (by omega) e; omega
          simp [this]
      exact key i (Nat.le_refl _)
    rw [ct_split _ (fun b => decide (b = f i))] at ih
    have e1 : ct (fun b => ((lmA f n i).testBit b && decide (b < v)) && decide (b = f i)) 8 = if f i < v then 1 else 0 := by
      have e : ct (fun b => ((lmA f n i).testBit b && decide (b < v)) && decide (b = f i)) 8 = ct (fun b => decide (b = f i) && decide (f i < v)) 8 := ct_congr (fun b _ => by
        by_cases hb : b = f i
        · subst hb
          rw [lm_bit hn, hni]
          simp [hi]
        · simp [hb])
      rw [e, ct_at]
      have : f i < 8 := by omega
      simp [this]
    have e2 : ct (fun b => ((lmA f n i).testBit b && decide (b < v)) && !decide (b = f i)) 8 = ct (fun b => (lmA f n (i + 1)).testBit b && decide (b < v)) 8 := ct_congr (fun b _ => by
      rw [lm_bit hn, lm_bit hn, show nin f b (i + 1) = (nin f b i && !decide (f i = b)) from rfl]
      by_cases hb : b = f i
      · subst hb; simp
      · have : ¬ f i = b := fun e => hb e.symm
        simp [hb, this])
    rw [e1, e2] at ih
    have e3 : ct (fun k => decide (f k < v)) (i + 1) = ct (fun k => decide (f k < v)) i + if f i < v then 1 else 0 := by
      conv => lhs; unfold ct
      simp
    rw [e3]
    omega
theorem less_eq {f : Nat → Nat} {n i : Nat} (hf : PM n f) (hi : i < n) : less f n i + ct (fun k => decide (f k < f i)) i = f i := by
  have h1 := PM_ct hf (Nat.le_of_lt (hf.1 i hi))
  rw [ct_split _ (fun k => decide (i < k))] at h1
  have e1 : ct (fun k => decide (f k < f i) && decide (i < k)) n = less f n i := ct_congr (fun k _ => Bool.and_comm _ _)
  have e2 : ∀ m, m ≤ n → i ≤ m → ct (fun k => decide (f k < f i) && !decide (i < k)) m = ct (fun k => decide (f k < f i)) i := by
    intro m
    induction m with
    | zero => intro _ h0; have : i = 0 := by omega
              subst this; rfl
    | succ m ih =>
      intro h2 h3
      by_cases e : i = m + 1
      · subst e
        refine ct_congr (fun k hk => ?_)
        have : ¬ m + 1 < k := by omega
        simp [this]
      · rw [← ih (by omega) (by omega)]
        conv => lhs; unfold ct
        by_cases e3 : i = m
        · subst e3; simp
        · have : i < m := by omega
          simp [this]
  rw [e1, e2 n (Nat.le_refl _) (by omega)] at h1
  exact h1
theorem pop_less {f : Nat → Nat} {n i : Nat} (hn : n ≤ 7) (hf : PM n f) (hi : i < n) : pop (lmA f n i &&& (2 ^ f i - 1)) = less f n i := by
  have h1 := lm_ct hn hf (v := f i) (Nat.le_of_lt (hf.1 i hi)) i (by omega)
  have h2 := less_eq hf hi
  have e : pop (lmA f n i &&& (2 ^ f i - 1)) = ct (fun b => (lmA f n i).testBit b && decide (b < f i)) 8 := ct_congr (fun b _ => by
    rw [Nat.testBit_and, Nat.testBit_two_pow_sub_one])
  omega
theorem sp_Perm_number {n : Nat} {f : Nat → Nat} (hn : n ≤ 7) (hf : PM n f) (h : xHp) : Spec g_Perm_number [.int (R (nrm n f)), .int (nI n)] h (some (.int (nI (rank n f)))) h := by
  refine Spec.of (by decide +kernel) (Nat.le_of_ble_eq_true rfl) ⟨_, rfl⟩ rfl rfl (fun c hc => by cases hc) (fun Q hQ => ?_)
  refine xgoal [(11, [0, 1, 2, 3, 4])] 100 ok_Perm_number ?_
  have h2 : 2 ^ n ≤ 2 ^ 7 := Nat.pow_le_pow_right (by omega) hn
  have h3 : 1 ≤ 2 ^ n := Nat.two_pow_pos n
  have e0 : nI 1 <<< (nI n &&& 31) - nI 1 = nI (lmA f n 0) := by
    rw [n_shl _ _ (by omega), Nat.one_mul, pk_sub h3]; rfl
  have key := up_loop (P := fun i => xAt (h.1, h.2.1) g_Perm_number Q 11 [(0, .int (R (nrm n f))), (1, .int (nI n)), (2, .int (nI (lmA f n i))), (3, .int (nI (rkA f n i))), (4, .int (nI i))] [] h) n ?_ (fun i hi ih => ?_) 0 (Nat.zero_le _)
  · rw [← e0] at key
    exact key
  · refine xgoal [(11, [0, 1, 2, 3, 4])] 100 ok_Perm_number ?_
    exact pk_le n n (fun c => hQ) (fun c => absurd c (by omega))
  · refine xgoal [(11, [0, 1, 2, 3, 4])] 100 ok_Perm_number ?_
    refine pk_le n i (fun c => absurd c (by omega)) (fun c => ?_)
    have hfi := hf.1 i hi
    refine xci (sp_Row_entry (nrm_b8 (fun j hj => by have := hf.1 j hj; omega)) (by omega) _) ?_
    rw [nrm_in hi]
    have g1 : 2 ^ f i ≤ 2 ^ 7 := Nat.pow_le_pow_right (by omega) (by omega)
    have g2 : 1 ≤ 2 ^ f i := Nat.two_pow_pos _
    have e1 : nI 1 <<< (nI (f i) &&& 31) = nI (2 ^ f i) := by rw [n_shl _ _ (by omega), Nat.one_mul]
    have e2 : nI (lmA f n i) &&& (nI 1 <<< (nI (f i) &&& 31) - nI 1) = nI (lmA f n i &&& (2 ^ f i - 1)) := by rw [e1, pk_sub g2, n_and]
    have g3 := lm_lt (f := f) hn i
    have g4 : lmA f n i &&& (2 ^ f i - 1) ≤ lmA f n i := Nat.and_le_left
    have sp := sp_JI_bitCount (x := lmA f n i &&& (2 ^ f i - 1)) (by omega) h
    rw [← e2, pop_less hn hf hi] at sp
    refine xci sp ?_
    have e3 : nI (lmA f n (i + 1)) = nI (lmA f n i) &&& ((nI 1 <<< (nI (f i) &&& 31)) ^^^ -1) := by
      rw [e1, n_m1, n_xor, n_and]; rfl
    have e4 : nI (rkA f n (i + 1)) = nI (rkA f n i) * (nI n - nI i) + nI (less f n i) := by
      rw [pk_sub (Nat.le_of_lt hi), n_mul, nI_add]; rfl
    rw [e3, e4, ← nI_1 i] at ih
    exact ih
