/-! Permutation: numbers, inverses, powers, roots -/
theorem R_nrm {n : Nat} {f g : Nat → Nat} (h : ∀ i, i < n → f i = g i) : R (nrm n f) = R (nrm n g) := R_congr fun i _ => by
  unfold nrm
  split
  · exact h i (by assumption)
  · rfl
theorem uf_lt8 {n k m : Nat} (hn : n ≤ 7) (hm : m ≤ n) : ∀ j, j < n → uf n k m j < 8 := by
  intro j hj
  by_cases h : n - m ≤ j
  · have := (uf_PM n k m hm).1 j h hj; omega
  · have key : ∀ m, m ≤ n → j < n - m → uf n k m j = 0 := by
      intro m
      induction m with
      | zero => intro _ _; rfl
      | succ m ih =>
        intro h1 h2
        unfold uf
        rw [if_neg (by omega), if_neg (by omega), ih (by omega) (by omega)]
    rw [key m hm (by omega)]
    omega
theorem uf_lt7 {n k m : Nat} (hn : n ≤ 7) (hm : m + 1 ≤ n) : ∀ j, n - m ≤ j → j < n → uf n k m j < 7 := by
  intro j h hj
  have := (uf_PM n k m (by omega)).1 j h hj; omega
/-- the inner loop's row: the lines from i + 1 to j have made room for v -/
def ufj (n k m j : Nat) : Nat → Nat := fun t => if n - 1 - m < t ∧ t < j then shf (ur k m % (m + 1)) (uf n k m t) else uf n k m t
theorem nI_dec {x : Nat} (h : 0 < x) : nI x + -1 = nI (x - 1) := sb_m1 h
theorem sp_Perm_numbered {n k : Nat} (hn1 : 1 ≤ n) (hn : n ≤ 7) (hk : k < 2147483648) (h : xHp) : Spec g_Perm_numbered [.int (nI k), .int (nI n)] h (some (.int (R (nrm n (unr n k))))) h := by
  refine Spec.of (by decide +kernel) (Nat.le_of_ble_eq_true rfl) ⟨_, rfl⟩ rfl rfl (fun c hc => by cases hc) (fun Q hQ => ?_)
  refine xgoal [(9, [1, 2, 3, 4]), (37, [1, 2, 3, 4, 6, 7])] 100 ok_Perm_numbered ?_
  have key := up_loop (P := fun m => xAt (h.1, h.2.1) g_Perm_numbered Q 9 [(1, .int (nI n)), (2, .int (R (nrm n (uf n k m)))), (3, .int (nI (ur k m))), (4, .int (nI (n - m) + -1))] [] h) n ?_ (fun m hm ih => ?_) 0 (Nat.zero_le _)
  · rw [Nat.sub_zero, nI_dec (by omega)] at key
    have e : nI n - nI 1 = nI (n - 1) := pk_sub hn1
    have e9 : R (nrm n (uf n k 0)) = nI 0 := R_congr (f := nrm n (uf n k 0)) (g := fun _ => 0) (fun i _ => by unfold nrm; split <;> rfl)
    rw [← e, e9] at key
    exact key
  · refine xgoal [(9, [1, 2, 3, 4]), (37, [1, 2, 3, 4, 6, 7])] 100 ok_Perm_numbered ?_
    refine And.intro (fun c => hQ) (fun c => absurd ?_ c)
    rw [Nat.sub_self]; decide
  · refine xgoal [(9, [1, 2, 3, 4]), (37, [1, 2, 3, 4, 6, 7])] 100 ok_Perm_numbered ?_
    have e0 : nI (n - m) + -1 = nI (n - 1 - m) := by rw [nI_dec (by omega), show n - m - 1 = n - 1 - m by omega]
    have e1 : nI n - (nI (n - m) + -1) = nI (m + 1) := by rw [e0, pk_sub (by omega), show n - (n - 1 - m) = m + 1 by omega]
    have hur : ur k m < 2147483648 := by rw [ur_fct]; exact Nat.lt_of_le_of_lt (Nat.div_le_self _ _) hk
    have hd : ¬ nI n - (nI (n - m) + -1) = 0 := by rw [e1]; exact nI_ne0 (by omega) (by omega)
    have hv : ur k m % (m + 1) < m + 1 := Nat.mod_lt _ (Nat.succ_pos m)
    refine And.intro (fun c => absurd c (by rw [e0]; exact nI_pos (by omega))) (fun c => ?_)
    refine And.intro hd ?_
    refine And.intro hd ?_
    have e2 : nI (ur k m) - nI (ur k m) / (nI n - (nI (n - m) + -1)) * (nI n - (nI (n - m) + -1)) = nI (ur k m % (m + 1)) := by rw [e1, pk_rem hur (by omega) (by omega)]
    have e3 : nI (ur k m) / (nI n - (nI (n - m) + -1)) = nI (ur k (m + 1)) := by rw [e1, pk_div hur (by omega) (by omega)]; rfl
    have key := up_loop (P := fun j => n - m ≤ j → xAt (h.1, h.2.1) g_Perm_numbered Q 37 [(1, .int (nI n)), (2, .int (R (nrm n (ufj n k m j)))), (3, .int (nI (ur k (m + 1)))), (4, .int (nI (n - m) + -1)), (6, .int (nI (ur k m % (m + 1)))), (7, .int (nI j))] [] h) n ?_ (fun j hj ihj => ?_) (n - m) (by omega) (Nat.le_refl _)
    · have e4 : R (nrm n (ufj n k m (n - m))) = R (nrm n (uf n k m)) := R_nrm (fun i _ => by unfold ufj; rw [if_neg (by omega)])
      have e5 : nI (n - m) = nI (n - m) + -1 + nI 1 := by rw [e0, nI_add, show n - 1 - m + 1 = n - m by omega]
      rw [e4, ← e2, ← e3] at key
      rw [show [(1, Value.int (nI n)), (2, Value.int (R (nrm n (uf n k m)))), (3, Value.int (nI (ur k m) / (nI n - (nI (n - m) + -1)))), (4, Value.int (nI (n - m) + -1)), (6, Value.int (nI (ur k m) - nI (ur k m) / (nI n - (nI (n - m) + -1)) * (nI n - (nI (n - m) + -1)))), (7, Value.int (nI (n - m)))] = [(1, Value.int (nI n)), (2, Value.int (R (nrm n (uf n k m)))), (3, Value.int (nI (ur k m) / (nI n - (nI (n - m) + -1)))), (4, Value.int (nI (n - m) + -1)), (6, Value.int (nI (ur k m) - nI (ur k m) / (nI n - (nI (n - m) + -1)) * (nI n - (nI (n - m) + -1)))), (7, Value.int (nI (n - m) + -1 + nI 1))] from by rw [← e5]] at key
      exact key
    · intro _
      refine xgoal [(9, [1, 2, 3, 4]), (37, [1, 2, 3, 4, 6, 7])] 100 ok_Perm_numbered ?_
      refine pk_le n n (fun c => ?_) (fun c => absurd c (by omega))
      have hb : b8 (nrm n (ufj n k m n)) := nrm_b8 (fun j hj => by
        unfold ufj
        split
        · have := uf_lt7 hn hm j (k := k) (by omega) hj
          unfold shf; split <;> omega
        · exact uf_lt8 hn (by omega) j hj)
      have sp := sp_Row_with (i := n - 1 - m) hb (by omega) (v := ur k m % (m + 1)) (by omega) h
      rw [← e0] at sp
      refine xci sp ?_
      have e6 : R (upn (nrm n (ufj n k m n)) (n - 1 - m) (ur k m % (m + 1))) = R (nrm n (uf n k (m + 1))) := R_congr (fun i _ => by
        unfold upn nrm
        by_cases g1 : i = n - 1 - m
        · rw [if_pos g1, if_pos (by omega)]
          unfold uf
          rw [if_pos g1]
        · rw [if_neg g1]
          by_cases g2 : i < n
          · rw [if_pos g2, if_pos g2]
            unfold ufj
            conv => rhs; unfold uf
            rw [if_neg g1]
            by_cases g3 : n - 1 - m < i
            · rw [if_pos ⟨g3, g2⟩, if_pos g3]
            · rw [if_neg (fun z => g3 z.1), if_neg g3]
          · rw [if_neg g2, if_neg g2])
      have e7 : nI (n - (m + 1)) + -1 = nI (n - m) + -1 + -1 := by rw [e0, show n - (m + 1) = n - 1 - m by omega]
      rw [← e6, e7] at ih
      exact ih
    · intro hj0
      have ihj := ihj (by omega)
      refine xgoal [(9, [1, 2, 3, 4]), (37, [1, 2, 3, 4, 6, 7])] 100 ok_Perm_numbered ?_
      refine pk_le n j (fun c => absurd c (by omega)) (fun c => ?_)
      have hb : b8 (nrm n (ufj n k m j)) := nrm_b8 (fun t ht => by
        unfold ufj
        split
        · have := uf_lt7 hn hm t (k := k) (by omega) ht
          unfold shf; split <;> omega
        · exact uf_lt8 hn (by omega) t ht)
      have ej : nrm n (ufj n k m j) j = uf n k m j := by
        rw [nrm_in hj]; unfold ufj; rw [if_neg (by omega)]
      have sp := sp_Row_entry (i := j) hb (by omega) h
      rw [ej] at sp
      have h7 := uf_lt7 hn hm j (k := k) hj0 hj
      refine xci sp ?_
      refine pk_lt (uf n k m j) (ur k m % (m + 1)) (fun c2 => ?_) (fun c2 => ?_)
      · have e8 : R (nrm n (ufj n k m (j + 1))) = R (nrm n (ufj n k m j)) := R_nrm (fun i hi => by
          unfold ufj
          by_cases g : i = j
          · subst g
            rw [if_pos (by omega), if_neg (by omega)]
            unfold shf; rw [if_neg (by omega)]
          · by_cases g2 : n - 1 - m < i ∧ i < j
            · rw [if_pos g2, if_pos (by omega)]
            · rw [if_neg g2, if_neg (by omega)])
        rw [e8, ← nI_1 j] at ihj
        exact ihj
      · have sp2 := sp_Row_with (i := j) hb (by omega) (v := uf n k m j + 1) (by omega) h
        rw [← nI_1 (uf n k m j)] at sp2
        refine xci sp2 ?_
        have e8 : R (upn (nrm n (ufj n k m j)) j (uf n k m j + 1)) = R (nrm n (ufj n k m (j + 1))) := R_congr (fun i hi => by
          unfold upn nrm
          by_cases g : i = j
          · subst g
            rw [if_pos rfl, if_pos hj]
            unfold ufj
            rw [if_pos (by omega)]
            unfold shf; rw [if_pos (by omega)]
          · rw [if_neg g]
            by_cases g3 : i < n
            · rw [if_pos g3, if_pos g3]
              unfold ufj
              by_cases g2 : n - 1 - m < i ∧ i < j
              · rw [if_pos g2, if_pos (by omega)]
              · rw [if_neg g2, if_neg (by omega)]
            · rw [if_neg g3, if_neg g3])
        rw [← e8, ← nI_1 j] at ihj
        exact ihj
/-! inverses -/
def ivA (f : Nat → Nat) : Nat → Nat → Nat
  | 0 => fun _ => 0
  | i + 1 => upn (ivA f i) (f i) i
def inv (n : Nat) (f : Nat → Nat) : Nat → Nat := ivA f n
theorem ivA_lt {f : Nat → Nat} : ∀ m v, ivA f m v < m ∨ ivA f m v = 0
  | 0, _ => Or.inr rfl
  | m + 1, v => by
    unfold ivA upn
    split
    · exact Or.inl (Nat.lt_succ_self m)
    · rcases ivA_lt (f := f) m v with h | h
      · exact Or.inl (by omega)
      · exact Or.inr h
theorem ivA_get {n : Nat} {f : Nat → Nat} (hf : PM n f) : ∀ m, m ≤ n → ∀ i, i < m → ivA f m (f i) = i
  | 0, _, i, h => absurd h (Nat.not_lt_zero i)
  | m + 1, hm, i, h => by
    unfold ivA upn
    by_cases e : f i = f m
    · rw [if_pos e]
      exact (hf.2 i m (by omega) (by omega) e).symm
    · rw [if_neg e]
      exact ivA_get hf m (by omega) i (by
        have : i ≠ m := fun z => e (by rw [z])
        omega)
theorem inv_get {n i : Nat} {f : Nat → Nat} (hf : PM n f) (hi : i < n) : inv n f (f i) = i := ivA_get hf n (Nat.le_refl _) i hi
theorem PM_sur {n v : Nat} {f : Nat → Nat} (hf : PM n f) (hv : v < n) : ∃ i, i < n ∧ f i = v := by
  refine Classical.byContradiction fun hno => ?_
  have h1 := PM_ct hf (Nat.le_of_lt hv)
  have h2 := PM_ct hf (v := v + 1) hv
  have e : ct (fun k => decide (f k < v + 1)) n = ct (fun k => decide (f k < v)) n := ct_congr (fun k hk => by
    have : f k ≠ v := fun z => hno ⟨k, hk, z⟩
    exact decide_eq_decide.mpr (by omega))
  omega
theorem get_inv {n v : Nat} {f : Nat → Nat} (hf : PM n f) (hv : v < n) : inv n f v < n ∧ f (inv n f v) = v := by
  obtain ⟨i, hi, rfl⟩ := PM_sur hf hv
  rw [inv_get hf hi]
  exact ⟨hi, rfl⟩
theorem inv_PM {n : Nat} {f : Nat → Nat} (hf : PM n f) : PM n (inv n f) := ⟨fun i hi => (get_inv hf hi).1, fun i j hi hj e => by
  rw [← (get_inv hf hi).2, ← (get_inv hf hj).2, e]⟩
theorem ivA_out {n : Nat} {f : Nat → Nat} (hf : ∀ i, i < n → f i < n) : ∀ m, m ≤ n → ∀ v, n ≤ v → ivA f m v = 0
  | 0, _, _, _ => rfl
  | m + 1, hm, v, hv => by
    unfold ivA upn
    rw [if_neg (by have := hf m (by omega); omega)]
    exact ivA_out hf m (by omega) v hv
theorem sp_Perm_inverse {n : Nat} {f : Nat → Nat} (hn : n ≤ 7) (hf : PM n f) (h : xHp) : Spec g_Perm_inverse [.int (R (nrm n f)), .int (nI n)] h (some (.int (R (nrm n (inv n f))))) h := by
  refine Spec.of (by decide +kernel) (Nat.le_of_ble_eq_true rfl) ⟨_, rfl⟩ rfl rfl (fun c hc => by cases hc) (fun Q hQ => ?_)
  refine xgoal [(4, [0, 1, 2, 3])] 100 ok_Perm_inverse ?_
  have hb : ∀ i, i ≤ n → b8 (ivA f i) := fun i hi v _ => by
    rcases ivA_lt (f := f) i v with h | h <;> omega
  refine up_loop (P := fun i => xAt (h.1, h.2.1) g_Perm_inverse Q 4 [(0, .int (R (nrm n f))), (1, .int (nI n)), (2, .int (R (ivA f i))), (3, .int (nI i))] [] h) n ?_ (fun i hi ih => ?_) 0 (Nat.zero_le _)
  · refine xgoal [(4, [0, 1, 2, 3])] 100 ok_Perm_inverse ?_
    have e : R (nrm n (inv n f)) = R (ivA f n) := R_congr (fun v _ => by
      unfold nrm
      by_cases g : v < n
      · rw [if_pos g]; rfl
      · rw [if_neg g, ivA_out hf.1 n (Nat.le_refl _) v (by omega)])
    rw [e] at hQ
    exact pk_le n n (fun c => hQ) (fun c => absurd c (by omega))
  · refine xgoal [(4, [0, 1, 2, 3])] 100 ok_Perm_inverse ?_
    refine pk_le n i (fun c => absurd c (by omega)) (fun c => ?_)
    have hfi := hf.1 i hi
    have sp := sp_Row_entry (i := i) (nrm_b8 (fun j hj => by have := hf.1 j hj; omega) : b8 (nrm n f)) (by omega) h
    rw [nrm_in hi] at sp
    refine xci sp ?_
    refine xci (sp_Row_with (hb i (by omega)) (by omega) (by omega) _) ?_
    rw [← nI_1 i] at ih
    exact ih
/-! powers -/
def itr (f : Nat → Nat) : Nat → Nat → Nat
  | 0, i => i
  | k + 1, i => f (itr f k i)
theorem itr_add (f : Nat → Nat) (a b i : Nat) : itr f (a + b) i = itr f a (itr f b i) := by
  induction a with
  | zero => rw [Nat.zero_add]; rfl
  | succ a ih => rw [Nat.succ_add]; show f _ = f _; rw [ih]
theorem itr_lt {n : Nat} {f : Nat → Nat} (hf : ∀ i, i < n → f i < n) (k : Nat) : ∀ i, i < n → itr f k i < n := by
  induction k with
  | zero => intro i hi; exact hi
  | succ k ih => intro i hi; exact hf _ (ih i hi)
theorem itr_inj {n : Nat} {f : Nat → Nat} (hf : PM n f) (k : Nat) : ∀ i j, i < n → j < n → itr f k i = itr f k j → i = j := by
  induction k with
  | zero => intro i j _ _ e; exact e
  | succ k ih => intro i j hi hj e; exact ih i j hi hj (hf.2 _ _ (itr_lt hf.1 k i hi) (itr_lt hf.1 k j hj) e)
theorem itr_PM {n : Nat} {f : Nat → Nat} (hf : PM n f) (k : Nat) : PM n (itr f k) := ⟨itr_lt hf.1 k, itr_inj hf k⟩
theorem itr_congr {n : Nat} {f g : Nat → Nat} (hf : ∀ i, i < n → f i < n) (h : ∀ i, i < n → f i = g i) (k : Nat) : ∀ i, i < n → itr f k i = itr g k i := by
  induction k with
  | zero => intro i _; rfl
  | succ k ih => intro i hi; show f _ = g _; rw [← ih i hi]; exact h _ (itr_lt hf k i hi)
theorem sp_Perm_repeated {n k : Nat} {f : Nat → Nat} (hn : n ≤ 7) (hf : PM n f) (hk : k < 2147483648) (h : xHp) : Spec g_Perm_repeated [.int (R (nrm n f)), .int (nI k), .int (nI n)] h (some (.int (R (nrm n (itr f k))))) h := by
  refine Spec.of (by decide +kernel) (Nat.le_of_ble_eq_true rfl) ⟨_, rfl⟩ rfl rfl (fun c hc => by cases hc) (fun Q hQ => ?_)
  refine xgoal [(11, [2, 3, 4, 5])] 100 ok_Perm_repeated ?_
  refine xci (sp_Row_ascending hn h) ?_
  have loop : ∀ z m r s, m < z → 0 < s → r + s * m = k → xAt (h.1, h.2.1) g_Perm_repeated Q 11 [(2, .int (nI n)), (3, .int (R (nrm n (itr f r)))), (4, .int (R (nrm n (itr f s)))), (5, .int (nI m))] [] h := by
    intro z
    induction z with
    | zero => intro m r s hm; omega
    | succ z ih =>
      intro m r s hm hs hrs
      have hmk : m ≤ k := by
        have : m ≤ s * m := Nat.le_mul_of_pos_left m hs
        omega
      have l8 : ∀ a, ∀ i, i < n → itr f a i < 8 := fun a i hi => by have := itr_lt hf.1 a i hi; omega
      have tt : ∀ a b, Spec g_Row_turned [.int (R (nrm n (itr f a))), .int (R (nrm n (itr f b))), .int (nI n)] h (some (.int (R (nrm n (itr f (a + b)))))) h := fun a b => by
        have e : R (nrm n (itr f (a + b))) = R (nrm n (fun i => itr f a (itr f b i))) := R_nrm (fun i _ => itr_add f a b i)
        rw [e]
        exact sp_Row_turned hn (l8 a) (itr_lt hf.1 b) h
      refine xgoal [(11, [2, 3, 4, 5])] 100 ok_Perm_repeated ?_
      refine pk_le m 0 (fun c => ?_) (fun c => ?_)
      · have : m = 0 := by omega
        subst this
        rw [Nat.mul_zero, Nat.add_zero] at hrs
        subst hrs
        exact hQ
      · have e1 : nI m &&& nI 1 = nI (m % 2) := by rw [n_and, show (1 : Nat) = 2 ^ 1 - 1 from rfl, Nat.and_two_pow_sub_one_eq_mod]
        have e2 : nI m >>> (nI 1 &&& 31) = nI (m / 2) := n_shr (by omega) (by omega)
        have e3 : s * m = (s + s) * (m / 2) + s * (m % 2) := by
          conv => lhs; rw [← Nat.div_add_mod m 2]
          rw [Nat.mul_add, ← Nat.mul_assoc, Nat.mul_two]
        refine pk_eq (m % 2) 1 (fun c2 => ?_) (fun c2 => ?_) e1 rfl
        · refine xci (tt r s) ?_
          refine xci (tt s s) ?_
          rw [c2, Nat.mul_one] at e3
          have ih := ih (m / 2) (r + s) (s + s) (by omega) (by omega) (by omega)
          rw [← e2] at ih
          exact ih
        · refine xci (tt s s) ?_
          have c3 : m % 2 = 0 := by omega
          rw [c3, Nat.mul_zero] at e3
          have ih := ih (m / 2) r (s + s) (by omega) (by omega) (by omega)
          rw [← e2] at ih
          exact ih
  have key := loop (k + 1) k 0 1 (by omega) (by omega) (by omega)
  have e : R (nrm n (itr f 1)) = R (nrm n f) := R_nrm (fun i _ => rfl)
  rw [e] at key
  exact key
