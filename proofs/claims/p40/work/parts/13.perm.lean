/-! PERMUTATIONS: counting, ranks, numbers -/
def ct (p : Nat → Bool) : Nat → Nat
  | 0 => 0
  | n + 1 => ct p n + if p n = true then 1 else 0
theorem ct_congr {p q : Nat → Bool} : ∀ {n : Nat}, (∀ k, k < n → p k = q k) → ct p n = ct q n
  | 0, _ => rfl
  | n + 1, h => by
    unfold ct
    rw [ct_congr (n := n) (fun k hk => h k (by omega)), h n (by omega)]
theorem ct_le (p : Nat → Bool) : ∀ n, ct p n ≤ n
  | 0 => Nat.le_refl _
  | n + 1 => by
    have := ct_le p n
    unfold ct
    split <;> omega
theorem ct_sub {p q : Nat → Bool} : ∀ {n : Nat}, (∀ k, k < n → p k = true → q k = true) → ct p n ≤ ct q n
  | 0, _ => Nat.le_refl _
  | n + 1, h => by
    have ih := ct_sub (n := n) (fun k hk => h k (by omega))
    have h1 := h n (by omega)
    unfold ct
    by_cases hp : p n = true
    · rw [if_pos hp, if_pos (h1 hp)]; omega
    · rw [if_neg hp]; split <;> omega
theorem ct_lt {p q : Nat → Bool} : ∀ {n : Nat}, (∀ k, k < n → p k = true → q k = true) → (∃ k, k < n ∧ q k = true ∧ ¬ p k = true) → ct p n < ct q n
  | 0, _, h => by obtain ⟨k, h, -⟩ := h; omega
  | n + 1, h, he => by
    have h1 := h n (by omega)
    unfold ct
    obtain ⟨k, hk, hq, hp⟩ := he
    by_cases e : k = n
    · subst e
      have ih := ct_sub (n := k) (fun j hj => h j (by omega))
      rw [if_pos hq, if_neg hp]; omega
    · have ih := ct_lt (n := n) (fun j hj => h j (by omega)) ⟨k, by omega, hq, hp⟩
      by_cases hp : p n = true
      · rw [if_pos hp, if_pos (h1 hp)]; omega
      · rw [if_neg hp]; split <;> omega
theorem ct_split (p q : Nat → Bool) : ∀ n, ct p n = ct (fun k => p k && q k) n + ct (fun k => p k && !q k) n
  | 0 => rfl
  | n + 1 => by
    have ih := ct_split p q n
    unfold ct
    rw [ih]
    cases p n <;> cases q n <;> simp <;> omega
theorem ct_none {p : Nat → Bool} : ∀ {n : Nat}, (∀ k, k < n → p k = false) → ct p n = 0
  | 0, _ => rfl
  | n + 1, h => by
    unfold ct
    rw [ct_none (n := n) (fun k hk => h k (by omega)), h n (by omega)]
    rfl
theorem ct_one {p : Nat → Bool} : ∀ {n : Nat}, (∀ i j, i < n → j < n → p i = true → p j = true → i = j) → ct p n ≤ 1
  | 0, _ => Nat.zero_le _
  | n + 1, h => by
    unfold ct
    by_cases hp : p n = true
    · rw [if_pos hp, ct_none]
      · exact Nat.le_refl _
      · intro k hk
        by_cases hk2 : p k = true
        · have := h k n (by omega) (by omega) hk2 hp; omega
        · simpa using hk2
    · rw [if_neg hp]
      exact ct_one (fun i j hi hj => h i j (by omega) (by omega))
/-- at most v of them, if different ones have different values below v -/
theorem ct_pig {n : Nat} {f : Nat → Nat} : ∀ {v : Nat} {p : Nat → Bool}, (∀ i j, i < n → j < n → p i = true → p j = true → f i = f j → i = j) → (∀ i, i < n → p i = true → f i < v) → ct p n ≤ v
  | 0, p, _, hv => by
    rw [ct_none]
    · exact Nat.le_refl _
    · intro k hk
      by_cases hp : p k = true
      · have := hv k hk hp; omega
      · simpa using hp
  | v + 1, p, hi, hv => by
    rw [ct_split p (fun k => decide (f k < v))]
    have h1 : ct (fun k => p k && decide (f k < v)) n ≤ v := ct_pig (v := v) (fun i j hi' hj' h1 h2 => by
      simp only [Bool.and_eq_true] at h1 h2
      exact hi i j hi' hj' h1.1 h2.1) (fun i hi' h1 => by
      simp only [Bool.and_eq_true, decide_eq_true_eq] at h1
      exact h1.2)
    have h2 : ct (fun k => p k && !decide (f k < v)) n ≤ 1 := ct_one (fun i j hi' hj' h1 h2 => by
      simp only [Bool.and_eq_true, Bool.not_eq_true', decide_eq_false_iff_not] at h1 h2
      have a1 := hv i hi' h1.1
      have a2 := hv j hj' h2.1
      exact hi i j hi' hj' h1.1 h2.1 (by omega))
    omega
theorem ct_exact {n m v : Nat} {f : Nat → Nat} {p : Nat → Bool} (hi : ∀ i j, i < n → j < n → p i = true → p j = true → f i = f j → i = j) (hv : ∀ i, i < n → p i = true → f i < m) (hm : ct p n = m) (hvm : v ≤ m) : ct (fun k => p k && decide (f k < v)) n = v := by
  have h0 := ct_split p (fun k => decide (f k < v)) n
  have h1 : ct (fun k => p k && decide (f k < v)) n ≤ v := ct_pig (f := f) (fun i j hi' hj' h1 h2 => by
      simp only [Bool.and_eq_true] at h1 h2
      exact hi i j hi' hj' h1.1 h2.1) (fun i hi' h1 => by
      simp only [Bool.and_eq_true, decide_eq_true_eq] at h1
      exact h1.2)
  have h2 : ct (fun k => p k && !decide (f k < v)) n ≤ m - v := ct_pig (f := fun k => f k - v) (fun i j hi' hj' h1 h2 e => by
      simp only [Bool.and_eq_true, Bool.not_eq_true', decide_eq_false_iff_not] at h1 h2
      exact hi i j hi' hj' h1.1 h2.1 (by omega)) (fun i hi' h1 => by
      simp only [Bool.and_eq_true, Bool.not_eq_true', decide_eq_false_iff_not] at h1
      have := hv i hi' h1.1
      omega)
  omega
theorem ct_gt (i : Nat) : ∀ n, ct (fun j => decide (i < j)) n = n - 1 - i
  | 0 => by simp [ct]
  | n + 1 => by
    have ih := ct_gt i n
    unfold ct
    rw [ih]
    by_cases h : i < n
    · simp [h]; omega
    · simp [h]; omega
theorem ct_true : ∀ n, ct (fun _ => true) n = n
  | 0 => rfl
  | n + 1 => by unfold ct; rw [ct_true n]; rfl
/-- f gives the lines below n lines below n, different ones different ones -/
def PM (n : Nat) (f : Nat → Nat) : Prop := (∀ i, i < n → f i < n) ∧ ∀ i j, i < n → j < n → f i = f j → i = j
theorem PM_ct {n v : Nat} {f : Nat → Nat} (h : PM n f) (hv : v ≤ n) : ct (fun k => decide (f k < v)) n = v := by
  have := ct_exact (n := n) (m := n) (v := v) (f := f) (p := fun _ => true) (fun i j hi hj _ _ e => h.2 i j hi hj e) (fun i hi _ => h.1 i hi) (ct_true n) hv
  simpa using this
def less (f : Nat → Nat) (n i : Nat) : Nat := ct (fun j => decide (i < j) && decide (f j < f i)) n
theorem less_lt {f : Nat → Nat} {n i : Nat} (hi : i < n) : less f n i < n - i := by
  have h1 : less f n i ≤ ct (fun j => decide (i < j)) n := ct_sub (fun k _ h => by simp only [Bool.and_eq_true] at h; exact h.1)
  rw [ct_gt] at h1
  omega
def rkA (f : Nat → Nat) (n : Nat) : Nat → Nat
  | 0 => 0
  | i + 1 => rkA f n i * (n - i) + less f n i
/-- the number of a permutation -/
def rank (n : Nat) (f : Nat → Nat) : Nat := rkA f n n
def fct : Nat → Nat
  | 0 => 1
  | n + 1 => (n + 1) * fct n
theorem fct_pos : ∀ n, 0 < fct n
  | 0 => Nat.zero_lt_one
  | n + 1 => Nat.mul_pos (Nat.succ_pos n) (fct_pos n)
theorem rkA_lt {f : Nat → Nat} {n : Nat} : ∀ i, i ≤ n → (rkA f n i + 1) * fct (n - i) ≤ fct n
  | 0, _ => by simp [rkA]
  | i + 1, h => by
    have ih := rkA_lt (f := f) (n := n) i (by omega)
    have h1 := less_lt (f := f) (n := n) (i := i) (by omega)
    have e : n - i = (n - (i + 1)) + 1 := by omega
    have h2 : (rkA f n (i + 1) + 1) * fct (n - (i + 1)) ≤ (rkA f n i + 1) * fct (n - i) := by
      rw [e, fct, ← e]
      rw [← Nat.mul_assoc]
      refine Nat.mul_le_mul_right _ ?_
      show rkA f n i * (n - i) + less f n i + 1 ≤ (rkA f n i + 1) * (n - i)
      rw [Nat.add_mul]
      omega
    exact Nat.le_trans h2 ih
theorem rank_lt (n : Nat) (f : Nat → Nat) : rank n f < fct n := by
  have h := rkA_lt (f := f) (n := n) n (Nat.le_refl _)
  rw [Nat.sub_self] at h
  simp only [fct, Nat.mul_one] at h
  exact h
theorem rank_congr {n : Nat} {f g : Nat → Nat} (h : ∀ i, i < n → f i = g i) : rank n f = rank n g := by
  have key : ∀ i, i ≤ n → rkA f n i = rkA g n i := by
    intro i
    induction i with
    | zero => intro _; rfl
    | succ i ih =>
      intro hi
      unfold rkA
      rw [ih (by omega)]
      congr 1
      unfold less
      exact ct_congr (fun k hk => by rw [h k hk, h i (by omega)])
  exact key n (Nat.le_refl _)
/-! the permutation with a number -/
def ur (k : Nat) : Nat → Nat
  | 0 => k
  | m + 1 => ur k m / (m + 1)
def shf (v x : Nat) : Nat := if v ≤ x then x + 1 else x
def uf (n k : Nat) : Nat → Nat → Nat
  | 0 => fun _ => 0
  | m + 1 => fun j => if j = n - 1 - m then ur k m % (m + 1) else if n - 1 - m < j then shf (ur k m % (m + 1)) (uf n k m j) else uf n k m j
def unr (n k : Nat) : Nat → Nat := uf n k n
theorem shf_lt {v x y : Nat} : shf v x < shf v y ↔ x < y := by unfold shf; split <;> split <;> omega
theorem shf_inj {v x y : Nat} (h : shf v x = shf v y) : x = y := by revert h; unfold shf; split <;> split <;> omega
theorem shf_ne {v x : Nat} : ¬ shf v x = v := by unfold shf; split <;> omega
theorem shf_ltv {v x : Nat} : shf v x < v ↔ x < v := by unfold shf; split <;> omega
theorem ur_fct (k : Nat) : ∀ m, ur k m = k / fct m
  | 0 => by simp [ur, fct]
  | m + 1 => by
    unfold ur fct
    rw [ur_fct k m, Nat.div_div_eq_div_mul, Nat.mul_comm]
theorem uf_PM (n k : Nat) : ∀ m, m ≤ n → (∀ j, n - m ≤ j → j < n → uf n k m j < m) ∧ ∀ i j, n - m ≤ i → i < n → n - m ≤ j → j < n → uf n k m i = uf n k m j → i = j
  | 0, _ => ⟨fun j h1 h2 => absurd h2 (by omega), fun i j h1 h2 => absurd h2 (by omega)⟩
  | m + 1, h => by
    obtain ⟨h1, h2⟩ := uf_PM n k m (by omega)
    have hv : ur k m % (m + 1) < m + 1 := Nat.mod_lt _ (Nat.succ_pos m)
    refine ⟨fun j g1 g2 => ?_, fun i j g1 g2 g3 g4 => ?_⟩
    · unfold uf
      by_cases e : j = n - 1 - m
      · rw [if_pos e]; exact hv
      · rw [if_neg e, if_pos (by omega)]
        have := h1 j (by omega) g2
        unfold shf
        split <;> omega
    · unfold uf
      by_cases e1 : i = n - 1 - m <;> by_cases e2 : j = n - 1 - m
      · omega
      · rw [if_pos e1, if_neg e2, if_pos (by omega)]
        intro e; exact absurd e.symm shf_ne
      · rw [if_neg e1, if_pos (by omega), if_pos e2]
        intro e; exact absurd e shf_ne
      · rw [if_neg e1, if_pos (by omega), if_neg e2, if_pos (by omega)]
        intro e; exact h2 i j (by omega) g2 (by omega) g4 (shf_inj e)
theorem unr_PM (n k : Nat) : PM n (unr n k) := by
  obtain ⟨h1, h2⟩ := uf_PM n k n (Nat.le_refl _)
  rw [Nat.sub_self] at h1 h2
  exact ⟨fun i hi => h1 i (Nat.zero_le _) hi, fun i j hi hj => h2 i j (Nat.zero_le _) hi (Nat.zero_le _) hj⟩
theorem uf_less (n k : Nat) : ∀ m, m ≤ n → ∀ i, n - m ≤ i → i < n → less (uf n k m) n i = ur k (n - 1 - i) % (n - i)
  | 0, _, i, h1, h2 => absurd h2 (by omega)
  | m + 1, h, i, h1, h2 => by
    by_cases e : i = n - 1 - m
    · have e1 : uf n k (m + 1) i = ur k m % (m + 1) := by unfold uf; rw [if_pos e]
      have e2 : n - 1 - i = m := by omega
      have e3 : n - i = m + 1 := by omega
      rw [e2, e3]
      obtain ⟨g1, g2⟩ := uf_PM n k m (by omega)
      have hv : ur k m % (m + 1) < m + 1 := Nat.mod_lt _ (Nat.succ_pos m)
      have hx := ct_exact (n := n) (m := m) (v := ur k m % (m + 1)) (f := uf n k m) (p := fun j => decide (i < j)) (fun a b ha hb h3 h4 => by
        simp only [decide_eq_true_eq] at h3 h4
        exact g2 a b (by omega) ha (by omega) hb) (fun a ha h3 => by
        simp only [decide_eq_true_eq] at h3
        exact g1 a (by omega) ha) (by rw [ct_gt]; omega) (by omega)
      unfold less
      rw [e1]
      refine (ct_congr (fun j hj => ?_)).trans hx
      by_cases hij : i < j
      · have e4 : uf n k (m + 1) j = shf (ur k m % (m + 1)) (uf n k m j) := by
          conv => lhs; unfold uf
          rw [if_neg (by omega), if_pos (by omega)]
        rw [e4]
        simp only [hij, decide_true, Bool.true_and]
        exact decide_eq_decide.mpr shf_ltv
      · simp [hij]
    · have ih := uf_less n k m (by omega) i (by omega) h2
      rw [← ih]
      unfold less
      refine ct_congr (fun j hj => ?_)
      by_cases hij : i < j
      · have e4 : uf n k (m + 1) j = shf (ur k m % (m + 1)) (uf n k m j) := by
          conv => lhs; unfold uf
          rw [if_neg (by omega), if_pos (by omega)]
        have e5 : uf n k (m + 1) i = shf (ur k m % (m + 1)) (uf n k m i) := by
          conv => lhs; unfold uf
          rw [if_neg (by omega), if_pos (by omega)]
        rw [e4, e5]
        rw [decide_eq_decide.mpr (shf_lt (v := ur k m % (m + 1)) (x := uf n k m j) (y := uf n k m i))]
      · simp [hij]
theorem rank_unr {n k : Nat} (hk : k < fct n) : rank n (unr n k) = k := by
  have key : ∀ i, i ≤ n → rkA (unr n k) n i = ur k (n - i) := by
    intro i
    induction i with
    | zero =>
      intro _
      rw [ur_fct, Nat.sub_zero, Nat.div_eq_of_lt hk]
      rfl
    | succ i ih =>
      intro hi
      unfold rkA
      have h1 : less (unr n k) n i = ur k (n - 1 - i) % (n - i) := uf_less n k n (Nat.le_refl _) i (by omega) (by omega)
      rw [ih (by omega), h1]
      have e : n - i = (n - 1 - i) + 1 := by omega
      have e2 : n - (i + 1) = n - 1 - i := by omega
      rw [e2]
      have e3 : ur k (n - i) = ur k (n - 1 - i) / (n - i) := by
        have e9 : ur k (n - 1 - i + 1) = ur k (n - 1 - i) / (n - 1 - i + 1) := rfl
        rw [← e] at e9
        exact e9
      rw [e3]
      exact Nat.div_add_mod' _ _
  have h := key n (Nat.le_refl _)
  rw [Nat.sub_self] at h
  exact h
def rel (f : Nat → Nat) (n i k : Nat) : Nat := ct (fun j => decide (i ≤ j) && decide (f j < f k)) n
theorem ct_at (i : Nat) (b : Bool) : ∀ n, ct (fun j => decide (j = i) && b) n = if i < n ∧ b = true then 1 else 0
  | 0 => by simp [ct]
  | n + 1 => by
    have ih := ct_at i b n
    unfold ct
    rw [ih]
    by_cases e : n = i
    · subst e
      cases b <;> simp
    · have e2 : (i < n ∧ b = true) ↔ (i < n + 1 ∧ b = true) := by
        constructor
        · rintro ⟨h1, h2⟩; exact ⟨by omega, h2⟩
        · rintro ⟨h1, h2⟩; exact ⟨by omega, h2⟩
      simp only [e, decide_false, Bool.false_and, e2]
      simp
theorem rel_step {f : Nat → Nat} {n i k : Nat} (hi : i < n) : rel f n i k = rel f n (i + 1) k + if f i < f k then 1 else 0 := by
  unfold rel
  rw [ct_split _ (fun j => decide (i < j))]
  congr 1
  · refine ct_congr (fun j hj => ?_)
    by_cases h : i < j
    · have h1 : i ≤ j := by omega
      have h2 : i + 1 ≤ j := by omega
      simp [h, h1, h2]
    · have h2 : ¬ i + 1 ≤ j := by omega
      simp [h, h2]
  · have e : ct (fun j => (decide (i ≤ j) && decide (f j < f k)) && !decide (i < j)) n = ct (fun j => decide (j = i) && decide (f i < f k)) n := by
      refine ct_congr (fun j hj => ?_)
      by_cases h : j = i
      · subst h; simp
      · by_cases h2 : i < j
        · simp [h, h2]
        · have h3 : ¬ i ≤ j := by omega
          simp [h, h2, h3]
    rw [e, ct_at]
    simp [hi]
theorem uf_rank {n : Nat} {f : Nat → Nat} (hf : PM n f) : ∀ m, m ≤ n → ur (rank n f) m = rkA f n (n - m) ∧ ∀ j, n - m ≤ j → j < n → uf n (rank n f) m j = rel f n (n - m) j
  | 0, _ => ⟨rfl, fun j h1 h2 => absurd h2 (by omega)⟩
  | m + 1, h => by
    obtain ⟨h1, h2⟩ := uf_rank hf m (by omega)
    have e : n - m = (n - (m + 1)) + 1 := by omega
    have e1 : n - (n - (m + 1)) = m + 1 := by omega
    have h3 : ur (rank n f) m = rkA f n (n - (m + 1)) * (m + 1) + less f n (n - (m + 1)) := by
      have e9 : rkA f n (n - (m + 1) + 1) = rkA f n (n - (m + 1)) * (n - (n - (m + 1))) + less f n (n - (m + 1)) := rfl
      rw [h1, e, e9, e1]
    have h4 := less_lt (f := f) (n := n) (i := n - (m + 1)) (by omega)
    rw [e1] at h4
    have h5 : ur (rank n f) m % (m + 1) = less f n (n - (m + 1)) := by
      rw [h3, Nat.add_comm, Nat.add_mul_mod_self_right, Nat.mod_eq_of_lt h4]
    have h6 : ur (rank n f) (m + 1) = rkA f n (n - (m + 1)) := by
      unfold ur
      rw [h3, Nat.add_comm, Nat.add_mul_div_right _ _ (Nat.succ_pos m), Nat.div_eq_of_lt h4, Nat.zero_add]
    refine ⟨h6, fun j g1 g2 => ?_⟩
    have ei : n - 1 - m = n - (m + 1) := by omega
    unfold uf
    rw [h5, ei]
    generalize hI : n - (m + 1) = i at *
    by_cases ej : j = i
    · rw [if_pos ej]
      subst ej
      unfold less rel
      refine ct_congr (fun k hk => ?_)
      by_cases hk2 : j < k
      · have : j ≤ k := by omega
        simp [hk2, this]
      · by_cases hk3 : k = j
        · subst hk3; simp
        · have : ¬ j ≤ k := by omega
          simp [hk2, this]
    · rw [if_neg ej, if_pos (by omega), h2 j (by omega) g2, e, rel_step (i := i) (by omega)]
      have hne : f i ≠ f j := fun q => ej (hf.2 i j (by omega) g2 q).symm
      have key : less f n i ≤ rel f n (i + 1) j ↔ f i < f j := by
        constructor
        · intro hle
          refine Nat.lt_of_not_le fun hge => ?_
          have hlt : f j < f i := by omega
          have : rel f n (i + 1) j < less f n i := ct_lt (fun k hk hp => by
            simp only [Bool.and_eq_true, decide_eq_true_eq] at hp ⊢
            omega) ⟨j, g2, by simp only [Bool.and_eq_true, decide_eq_true_eq]; omega, by simp⟩
          omega
        · intro hlt
          exact ct_sub (fun k hk hp => by
            simp only [Bool.and_eq_true, decide_eq_true_eq] at hp ⊢
            omega)
      unfold shf
      by_cases hc : f i < f j
      · rw [if_pos (key.mpr hc), if_pos hc]
      · rw [if_neg (fun z => hc (key.mp z)), if_neg hc]
        rfl
theorem unr_rank {n : Nat} {f : Nat → Nat} (hf : PM n f) : ∀ j, j < n → unr n (rank n f) j = f j := by
  intro j hj
  obtain ⟨-, h⟩ := uf_rank hf n (Nat.le_refl _)
  rw [Nat.sub_self] at h
  rw [show unr n (rank n f) j = uf n (rank n f) n j from rfl, h j (Nat.zero_le _) hj]
  unfold rel
  have e : ct (fun k => decide (0 ≤ k) && decide (f k < f j)) n = ct (fun k => decide (f k < f j)) n := ct_congr (fun k _ => by simp)
  rw [e]
  exact PM_ct hf (Nat.le_of_lt (hf.1 j hj))
theorem rank_inj {n : Nat} {f g : Nat → Nat} (hf : PM n f) (hg : PM n g) (h : rank n f = rank n g) : ∀ i, i < n → f i = g i := fun i hi => by
  rw [← unr_rank hf i hi, ← unr_rank hg i hi, h]
