/-! Row -/
def b8 (f : Nat → Nat) : Prop := ∀ i, i < 7 → f i < 8
def nrm (n : Nat) (f : Nat → Nat) : Nat → Nat := fun i => if i < n then f i else 0
theorem nrm_in {n : Nat} {f : Nat → Nat} {i : Nat} (h : i < n) : nrm n f i = f i := if_pos h
theorem nrm_b8 {n : Nat} {f : Nat → Nat} (h : ∀ i, i < n → f i < 8) : b8 (nrm n f) := fun i _ => by
  unfold nrm
  split
  · exact h i (by assumption)
  · omega
theorem R_push {n : Nat} {f : Nat → Nat} : R (upn (nrm n f) n (f n)) = R (nrm (n + 1) f) := R_congr fun i _ => by
  unfold upn nrm
  by_cases h : i = n
  · subst h; simp
  · rw [if_neg h]
    by_cases h2 : i < n
    · rw [if_pos h2, if_pos (by omega)]
    · rw [if_neg h2, if_neg (by omega)]
theorem R_nrm0 (f : Nat → Nat) : nI 0 = R (nrm 0 f) := rfl
theorem sp_Row_entry {f : Nat → Nat} {i : Nat} (hf : b8 f) (hi : i < 7) (h : xHp) : Spec g_Row_entry [.int (R f), .int (nI i)] h (some (.int (nI (f i)))) h := by
  refine Spec.of (by decide +kernel) (Nat.le_of_ble_eq_true rfl) ⟨_, rfl⟩ rfl rfl (fun c hc => by cases hc) (fun Q hQ => ?_)
  refine xgoal [] 100 ok_Row_entry ?_
  rw [← R_entry hf hi] at hQ
  exact hQ
theorem sp_Row_with {f : Nat → Nat} {i v : Nat} (hf : b8 f) (hi : i < 7) (hv : v < 8) (h : xHp) : Spec g_Row_with [.int (R f), .int (nI i), .int (nI v)] h (some (.int (R (upn f i v)))) h := by
  refine Spec.of (by decide +kernel) (Nat.le_of_ble_eq_true rfl) ⟨_, rfl⟩ rfl rfl (fun c hc => by cases hc) (fun Q hQ => ?_)
  refine xgoal [] 100 ok_Row_with ?_
  rw [← R_with hf hi hv] at hQ
  exact hQ
theorem sp_Row_ascending {n : Nat} (hn : n ≤ 7) (h : xHp) : Spec g_Row_ascending [.int (nI n)] h (some (.int (R (nrm n (fun i => i))))) h := by
  refine Spec.of (by decide +kernel) (Nat.le_of_ble_eq_true rfl) ⟨_, rfl⟩ rfl rfl (fun c hc => by cases hc) (fun Q hQ => ?_)
  refine xgoal [(4, [0, 1, 2])] 100 ok_Row_ascending ?_
  refine up_loop (P := fun i => xAt (h.1, h.2.1) g_Row_ascending Q 4 [(0, .int (nI n)), (1, .int (R (nrm i (fun i => i)))), (2, .int (nI i))] [] h) n ?_ (fun i hi ih => ?_) 0 (Nat.zero_le _)
  · refine xgoal [(4, [0, 1, 2])] 100 ok_Row_ascending ?_
    exact pk_le n n (fun c => hQ) (fun c => absurd c (by omega))
  · refine xgoal [(4, [0, 1, 2])] 100 ok_Row_ascending ?_
    refine pk_le n i (fun c => absurd c (by omega)) (fun c => ?_)
    refine xci (sp_Row_with (nrm_b8 (by omega)) (by omega) (by omega) _) ?_
    rw [R_push]
    rw [← nI_1 i] at ih
    exact ih
theorem sp_Row_turned {n : Nat} {f g : Nat → Nat} (hn : n ≤ 7) (hf : ∀ i, i < n → f i < 8) (hg : ∀ i, i < n → g i < n) (h : xHp) : Spec g_Row_turned [.int (R (nrm n f)), .int (R (nrm n g)), .int (nI n)] h (some (.int (R (nrm n (fun i => f (g i)))))) h := by
  refine Spec.of (by decide +kernel) (Nat.le_of_ble_eq_true rfl) ⟨_, rfl⟩ rfl rfl (fun c hc => by cases hc) (fun Q hQ => ?_)
  refine xgoal [(5, [0, 1, 2, 3, 4])] 100 ok_Row_turned ?_
  refine up_loop (P := fun i => xAt (h.1, h.2.1) g_Row_turned Q 5 [(0, .int (R (nrm n f))), (1, .int (R (nrm n g))), (2, .int (nI n)), (3, .int (R (nrm i (fun i => f (g i))))), (4, .int (nI i))] [] h) n ?_ (fun i hi ih => ?_) 0 (Nat.zero_le _)
  · refine xgoal [(5, [0, 1, 2, 3, 4])] 100 ok_Row_turned ?_
    exact pk_le n n (fun c => hQ) (fun c => absurd c (by omega))
  · refine xgoal [(5, [0, 1, 2, 3, 4])] 100 ok_Row_turned ?_
    have g1 := hg i hi
    refine pk_le n i (fun c => absurd c (by omega)) (fun c => ?_)
    refine xci (sp_Row_entry (nrm_b8 (fun j hj => by have := hg j hj; omega)) (by omega) _) ?_
    rw [nrm_in hi]
    refine xci (sp_Row_entry (nrm_b8 hf) (by omega) _) ?_
    rw [nrm_in g1]
    refine xci (sp_Row_with (nrm_b8 (fun j hj => hf _ (hg j (by omega)))) (by omega) (hf _ g1) _) ?_
    have e : R (upn (nrm i (fun i => f (g i))) i (f (g i))) = R (nrm (i + 1) (fun i => f (g i))) := R_push
    rw [e]
    rw [← nI_1 i] at ih
    exact ih
/-- the set of the first entries, as a mask -/
def bms (f : Nat → Nat) : Nat → Nat
  | 0 => 0
  | n + 1 => bms f n ||| 2 ^ f n
theorem bms_lt {f : Nat → Nat} {m : Nat} : ∀ {n : Nat}, (∀ i, i < n → f i < m) → bms f n < 2 ^ m
  | 0, _ => Nat.two_pow_pos m
  | n + 1, h => Nat.or_lt_two_pow (bms_lt (fun i hi => h i (by omega))) (Nat.pow_lt_pow_right (by omega) (h n (by omega)))
theorem sp_Row_entries {n : Nat} {f : Nat → Nat} (hn : n ≤ 7) (hf : b8 f) (h : xHp) : Spec g_Row_entries [.int (R f), .int (nI n)] h (some (.int (nI (bms f n)))) h := by
  refine Spec.of (by decide +kernel) (Nat.le_of_ble_eq_true rfl) ⟨_, rfl⟩ rfl rfl (fun c hc => by cases hc) (fun Q hQ => ?_)
  refine xgoal [(4, [0, 1, 2, 3])] 100 ok_Row_entries ?_
  refine up_loop (P := fun i => xAt (h.1, h.2.1) g_Row_entries Q 4 [(0, .int (R f)), (1, .int (nI n)), (2, .int (nI (bms f i))), (3, .int (nI i))] [] h) n ?_ (fun i hi ih => ?_) 0 (Nat.zero_le _)
  · refine xgoal [(4, [0, 1, 2, 3])] 100 ok_Row_entries ?_
    exact pk_le n n (fun c => hQ) (fun c => absurd c (by omega))
  · refine xgoal [(4, [0, 1, 2, 3])] 100 ok_Row_entries ?_
    refine pk_le n i (fun c => absurd c (by omega)) (fun c => ?_)
    refine xci (sp_Row_entry hf (by omega) _) ?_
    rw [← nI_1 i, show bms f (i + 1) = bms f i ||| 2 ^ f i from rfl, ← n_or] at ih
    have e : nI 1 <<< (nI (f i) &&& 31) = nI (2 ^ f i) := by
      rw [n_shl _ _ (by have := hf i (by omega); omega), Nat.one_mul]
    rw [← e] at ih
    exact ih
theorem sp_Row_hasEach {n : Nat} {f : Nat → Nat} (hn : n ≤ 7) (hf : b8 f) (h : xHp) : Spec g_Row_hasEach [.int (R f), .int (nI n)] h (some (.int (nI (if bms f n = 2 ^ n - 1 then 1 else 0)))) h := by
  refine Spec.of (by decide +kernel) (Nat.le_of_ble_eq_true rfl) ⟨_, rfl⟩ rfl rfl (fun c hc => by cases hc) (fun Q hQ => ?_)
  refine xgoal [] 100 ok_Row_hasEach ?_
  refine xci (sp_Row_entries hn hf _) ?_
  have h1 : bms f n < 2 ^ 8 := bms_lt (fun i hi => hf i (by omega))
  have h2 : 2 ^ n ≤ 2 ^ 7 := Nat.pow_le_pow_right (by omega) hn
  have h3 : 1 ≤ 2 ^ n := Nat.two_pow_pos n
  have e : nI 1 <<< (nI n &&& 31) - nI 1 = nI (2 ^ n - 1) := by
    rw [n_shl _ _ (by omega), Nat.one_mul, pk_sub h3]
  refine pk_eq (bms f n) (2 ^ n - 1) (fun c => ?_) (fun c => ?_) rfl e
  · rw [if_pos c] at hQ
    exact ⟨Or.inr rfl, hQ⟩
  · rw [if_neg c] at hQ
    exact ⟨Or.inl rfl, hQ⟩
