/-! FIT: the most places that can stay, over sets of words that are used up (0: impossible, otherwise 1 more) -/
def kw (KP : Nat → Nat → Nat) (AL M : Nat → Nat) (l w u : Nat) : Nat := if u / 2 ^ w % 2 = 1 ∨ ¬ AL l / 2 ^ w % 2 = 1 ∨ M (u ||| 2 ^ w) = 0 then 0 else KP l w + M (u ||| 2 ^ w)
def mw (KP : Nat → Nat → Nat) (AL M : Nat → Nat) (l u : Nat) : Nat → Nat
  | 0 => 0
  | w + 1 => max (mw KP AL M l u w) (kw KP AL M l w u)
theorem or_tab : ∀ u, u < 128 → ∀ w, w < 7 → ¬ u / 2 ^ w % 2 = 1 → u ||| 2 ^ w = u + 2 ^ w ∧ pop (u ||| 2 ^ w) = pop u + 1 := by decide +kernel
theorem pop_tab : ∀ n, n < 8 → pop (2 ^ n - 1) = n ∧ ∀ u, u < 2 ^ n → pop u ≤ n ∧ (u ≠ 2 ^ n - 1 → pop u < n) := by decide +kernel
theorem and_tab : ∀ u, u < 128 → ∀ w, w < 7 → (u &&& 2 ^ w = 0 ↔ ¬ u / 2 ^ w % 2 = 1) := by decide +kernel
theorem p2_7 {n : Nat} (hn : n ≤ 7) : 2 ^ n ≤ 128 := Nat.pow_le_pow_right (by omega) hn
theorem or_up {n u w : Nat} (hn : n ≤ 7) (hu : u < 2 ^ n) (hw : w < n) (hb : ¬ u / 2 ^ w % 2 = 1) : u < u ||| 2 ^ w ∧ u ||| 2 ^ w < 2 ^ n ∧ pop (u ||| 2 ^ w) = pop u + 1 := by
  have h7 := p2_7 hn
  obtain ⟨h1, h2⟩ := or_tab u (by omega) w (by omega) hb
  exact ⟨by rw [h1]; have := Nat.two_pow_pos w; omega, Nat.or_lt_two_pow hu (Nat.pow_lt_pow_right (by omega) hw), h2⟩
theorem mw_congr {KP : Nat → Nat → Nat} {AL M M' : Nat → Nat} {l u : Nat} : ∀ {m : Nat}, (∀ w, w < m → ¬ u / 2 ^ w % 2 = 1 → M (u ||| 2 ^ w) = M' (u ||| 2 ^ w)) → mw KP AL M l u m = mw KP AL M' l u m
  | 0, _ => rfl
  | m + 1, h => by
    unfold mw
    rw [mw_congr (m := m) (fun w hw => h w (by omega))]
    congr 1
    unfold kw
    by_cases c : u / 2 ^ m % 2 = 1
    · rw [if_pos (Or.inl c), if_pos (Or.inl c)]
    · rw [h m (by omega) c]
theorem mw_le {KP : Nat → Nat → Nat} {AL M : Nat → Nat} {l u B : Nat} : ∀ {m : Nat}, (∀ w, w < m → kw KP AL M l w u ≤ B) → mw KP AL M l u m ≤ B
  | 0, _ => Nat.zero_le _
  | m + 1, h => Nat.max_le.mpr ⟨mw_le (fun w hw => h w (by omega)), h m (by omega)⟩
theorem mw_ge {KP : Nat → Nat → Nat} {AL M : Nat → Nat} {l u w : Nat} : ∀ {m : Nat}, w < m → kw KP AL M l w u ≤ mw KP AL M l u m
  | 0, h => absurd h (Nat.not_lt_zero w)
  | m + 1, h => by
    unfold mw
    by_cases e : w = m
    · subst e; exact Nat.le_max_right _ _
    · exact Nat.le_trans (mw_ge (m := m) (by omega)) (Nat.le_max_left _ _)
theorem mw_ex {KP : Nat → Nat → Nat} {AL M : Nat → Nat} {l u : Nat} : ∀ {m : Nat}, mw KP AL M l u m ≠ 0 → ∃ w, w < m ∧ kw KP AL M l w u = mw KP AL M l u m
  | 0, h => absurd rfl h
  | m + 1, h => by
    unfold mw at h ⊢
    by_cases c : mw KP AL M l u m ≤ kw KP AL M l m u
    · exact ⟨m, by omega, (Nat.max_eq_right c).symm⟩
    · rw [Nat.max_eq_left (by omega)] at h ⊢
      obtain ⟨w, h1, h2⟩ := mw_ex h
      exact ⟨w, by omega, h2⟩
def mT (n : Nat) (KP : Nat → Nat → Nat) (AL : Nat → Nat) : Nat → Nat → Nat
  | 0 => fun x => if x = 2 ^ n - 1 then 1 else 0
  | k + 1 => upn (mT n KP AL k) (2 ^ n - 2 - k) (mw KP AL (mT n KP AL k) (pop (2 ^ n - 2 - k)) (2 ^ n - 2 - k) n)
theorem mT_ok {n : Nat} {KP : Nat → Nat → Nat} {AL : Nat → Nat} (hn : n ≤ 7) : ∀ k, k ≤ 2 ^ n - 1 → mT n KP AL k (2 ^ n - 1) = 1 ∧ ∀ x, 2 ^ n - 1 - k ≤ x → x < 2 ^ n - 1 → mT n KP AL k x = mw KP AL (mT n KP AL k) (pop x) x n
  | 0, _ => ⟨if_pos rfl, fun x h1 h2 => absurd h2 (by omega)⟩
  | k + 1, hk => by
    obtain ⟨h1, h2⟩ := mT_ok (KP := KP) (AL := AL) hn k (by omega)
    have up : ∀ x, x ≠ 2 ^ n - 2 - k → mT n KP AL (k + 1) x = mT n KP AL k x := fun x hx => if_neg hx
    have eq : mT n KP AL (k + 1) (2 ^ n - 2 - k) = mw KP AL (mT n KP AL k) (pop (2 ^ n - 2 - k)) (2 ^ n - 2 - k) n := if_pos rfl
    refine ⟨by rw [up _ (by omega)]; exact h1, fun x hx1 hx2 => ?_⟩
    have hc : mw KP AL (mT n KP AL (k + 1)) (pop x) x n = mw KP AL (mT n KP AL k) (pop x) x n := mw_congr (fun w hw hb => up _ (by
      have := or_up hn (by omega) hw hb
      omega))
    rw [hc]
    by_cases e : x = 2 ^ n - 2 - k
    · rw [e]; exact eq
    · rw [up x e]; exact h2 x (by omega) hx2
def mM (n : Nat) (KP : Nat → Nat → Nat) (AL : Nat → Nat) : Nat → Nat := mT n KP AL (2 ^ n - 1)
theorem mM_top {n : Nat} {KP : Nat → Nat → Nat} {AL : Nat → Nat} (hn : n ≤ 7) : mM n KP AL (2 ^ n - 1) = 1 := (mT_ok hn _ (Nat.le_refl _)).1
theorem mM_eq {n u : Nat} {KP : Nat → Nat → Nat} {AL : Nat → Nat} (hn : n ≤ 7) (hu : u < 2 ^ n - 1) : mM n KP AL u = mw KP AL (mM n KP AL) (pop u) u n := (mT_ok hn _ (Nat.le_refl _)).2 u (by omega) hu
theorem down {n : Nat} {P : Nat → Prop} (hn : n ≤ 7) (h1 : P (2 ^ n - 1)) (h2 : ∀ u, u < 2 ^ n - 1 → (∀ w, w < n → ¬ u / 2 ^ w % 2 = 1 → P (u ||| 2 ^ w)) → P u) : ∀ u, u < 2 ^ n → P u := by
  have key : ∀ k u, 2 ^ n - 1 - k ≤ u → u < 2 ^ n → P u := by
    intro k
    induction k with
    | zero => intro u g1 g2; have : u = 2 ^ n - 1 := by omega
              rw [this]; exact h1
    | succ k ih =>
      intro u g1 g2
      by_cases e : u = 2 ^ n - 1
      · rw [e]; exact h1
      · exact h2 u (by omega) (fun w hw hb => by
          obtain ⟨a1, a2, -⟩ := or_up hn g2 hw hb
          exact ih _ (by omega) a2)
  exact fun u hu => key (2 ^ n) u (by omega) hu
theorem mM_le {n C : Nat} {KP : Nat → Nat → Nat} {AL : Nat → Nat} (hn : n ≤ 7) (hC : ∀ l w, l < n → w < n → KP l w ≤ C) : ∀ u, u < 2 ^ n → mM n KP AL u ≤ (n - pop u) * C + 1 := by
  have ht := (pop_tab n (by omega)).2
  refine down hn ?_ (fun u hu ih => ?_)
  · rw [mM_top hn]; omega
  · rw [mM_eq hn hu]
    have hp := (ht u (by omega)).2 (by omega)
    refine mw_le (fun w hw => ?_)
    unfold kw
    split
    · omega
    · rename_i c
      have hb : ¬ u / 2 ^ w % 2 = 1 := fun z => c (Or.inl z)
      have g1 := ih w hw hb
      have g2 := hC (pop u) w hp hw
      obtain ⟨-, -, g3⟩ := or_up hn (show u < 2 ^ n by omega) hw hb
      rw [g3] at g1
      have g4 : (n - pop u) * C = (n - (pop u + 1)) * C + C := by
        rw [show n - pop u = (n - (pop u + 1)) + 1 by omega, Nat.add_mul, Nat.one_mul]
      omega
/-! the least prices -/
def lw (PR : Nat → Nat → Nat) (L : Nat → Nat) (l u : Nat) : Nat → Nat
  | 0 => 1000
  | w + 1 => min (lw PR L l u w) (if u / 2 ^ w % 2 = 1 then 1000 else PR l w + L (u ||| 2 ^ w))
def Lof (n C : Nat) (M : Nat → Nat) (u : Nat) : Nat := if M u = 0 then 1000 else (n - pop u) * C + 1 - M u
/-- how prices and kept places belong together -/
def PK (n C : Nat) (KP : Nat → Nat → Nat) (AL : Nat → Nat) (PR : Nat → Nat → Nat) : Prop := C ≤ 8 ∧ ∀ l w, l < n → w < n → KP l w ≤ C ∧ (AL l / 2 ^ w % 2 = 1 → PR l w + KP l w = C) ∧ (¬ AL l / 2 ^ w % 2 = 1 → 1000 ≤ PR l w)
theorem mul78 {a C : Nat} (ha : a ≤ 7) (hC : C ≤ 8) : a * C ≤ 56 := (Nat.mul_le_mul ha hC : a * C ≤ 7 * 8)
theorem lw_eq {n C u : Nat} {KP PR : Nat → Nat → Nat} {AL : Nat → Nat} (hn : n ≤ 7) (h : PK n C KP AL PR) (hu : u < 2 ^ n - 1) : ∀ m, m ≤ n → lw PR (Lof n C (mM n KP AL)) (pop u) u m = if mw KP AL (mM n KP AL) (pop u) u m = 0 then 1000 else (n - pop u) * C + 1 - mw KP AL (mM n KP AL) (pop u) u m
  | 0, _ => rfl
  | m + 1, hm => by
    have ih := lw_eq hn h hu m (by omega)
    have hp := ((pop_tab n (by omega)).2 u (by omega)).2 (by omega)
    have hb1 := mM_le (AL := AL) hn (fun l w hl hw => (h.2 l w hl hw).1)
    have hbu := hb1 u (by omega)
    rw [mM_eq hn hu] at hbu
    have g0 := mw_ge (KP := KP) (AL := AL) (M := mM n KP AL) (l := pop u) (u := u) (w := m) (m := n) (by omega)
    have gm : mw KP AL (mM n KP AL) (pop u) u m ≤ (n - pop u) * C + 1 := mw_le (fun w hw => Nat.le_trans (mw_ge (m := n) (by omega)) hbu)
    have h56 := mul78 (show n - pop u ≤ 7 by omega) h.1
    unfold lw mw
    rw [ih]
    clear ih
    unfold kw at g0 ⊢
    by_cases c1 : u / 2 ^ m % 2 = 1
    · rw [if_pos c1, if_pos (Or.inl c1), Nat.max_eq_left (Nat.zero_le _)]
      split <;> omega
    · rw [if_neg c1]
      obtain ⟨-, g2, g3⟩ := or_up hn (show u < 2 ^ n by omega) (show m < n by omega) c1
      obtain ⟨k1, k2, k3⟩ := h.2 (pop u) m hp (by omega)
      by_cases c2 : AL (pop u) / 2 ^ m % 2 = 1
      · have k2 := k2 c2
        unfold Lof
        by_cases c3 : mM n KP AL (u ||| 2 ^ m) = 0
        · rw [if_pos (Or.inr (Or.inr c3)), if_pos c3, Nat.max_eq_left (Nat.zero_le _)]
          split <;> omega
        · have hno : ¬ (u / 2 ^ m % 2 = 1 ∨ ¬ AL (pop u) / 2 ^ m % 2 = 1 ∨ mM n KP AL (u ||| 2 ^ m) = 0) := fun z => z.elim c1 (fun z => z.elim (fun z => z c2) c3)
          rw [if_neg hno] at g0 ⊢
          rw [if_neg c3, g3]
          have g4 : (n - pop u) * C = (n - (pop u + 1)) * C + C := by
            rw [show n - pop u = (n - (pop u + 1)) + 1 by omega, Nat.add_mul, Nat.one_mul]
          have g5 := hb1 _ g2
          rw [g3] at g5
          generalize (n - pop u) * C = A at *
          generalize (n - (pop u + 1)) * C = A' at *
          by_cases c4 : mw KP AL (mM n KP AL) (pop u) u m = 0
          · rw [if_pos c4, c4, Nat.max_eq_right (Nat.zero_le _), if_neg (by omega)]
            omega
          · rw [if_neg c4, if_neg (by omega)]
            omega
      · have k3 := k3 c2
        rw [if_pos (Or.inr (Or.inl c2)), Nat.max_eq_left (Nat.zero_le _)]
        split <;> omega
theorem Lof_eq {n C u : Nat} {KP PR : Nat → Nat → Nat} {AL : Nat → Nat} (hn : n ≤ 7) (h : PK n C KP AL PR) (hu : u < 2 ^ n - 1) : Lof n C (mM n KP AL) u = lw PR (Lof n C (mM n KP AL)) (pop u) u n := by
  rw [lw_eq hn h hu n (Nat.le_refl _)]
  unfold Lof
  rw [mM_eq hn hu]
theorem Lof_top {n C : Nat} {KP : Nat → Nat → Nat} {AL : Nat → Nat} (hn : n ≤ 7) : Lof n C (mM n KP AL) (2 ^ n - 1) = 0 := by
  unfold Lof
  rw [mM_top hn, if_neg (by omega), (pop_tab n (by omega)).1]
  simp
/-! the first stanza -/
def fwb (n : Nat) (KP : Nat → Nat → Nat) (AL : Nat → Nat) (u w : Nat) : Bool := decide (kw KP AL (mM n KP AL) (pop u) w u = mM n KP AL u)
def fw (n : Nat) (KP : Nat → Nat → Nat) (AL : Nat → Nat) (u : Nat) : Nat := sr (fwb n KP AL u) n 0
theorem fwb_eq {n C u w : Nat} {KP PR : Nat → Nat → Nat} {AL : Nat → Nat} (hn : n ≤ 7) (h : PK n C KP AL PR) (hu : u < 2 ^ n - 1) (hw : w < n) (h0 : mM n KP AL u ≠ 0) : fwb n KP AL u w = decide (¬ u / 2 ^ w % 2 = 1 ∧ PR (pop u) w + Lof n C (mM n KP AL) (u ||| 2 ^ w) = Lof n C (mM n KP AL) u) := by
  have hp := ((pop_tab n (by omega)).2 u (by omega)).2 (by omega)
  have hb1 := mM_le (AL := AL) hn (fun l w hl hw => (h.2 l w hl hw).1)
  have hbu := hb1 u (by omega)
  have h56 := mul78 (show n - pop u ≤ 7 by omega) h.1
  have hL : Lof n C (mM n KP AL) u = (n - pop u) * C + 1 - mM n KP AL u := if_neg h0
  unfold fwb
  refine decide_eq_decide.mpr ?_
  rw [hL]
  unfold kw
  by_cases c1 : u / 2 ^ w % 2 = 1
  · rw [if_pos (Or.inl c1)]
    exact ⟨fun z => absurd z.symm h0, fun z => absurd c1 z.1⟩
  · obtain ⟨-, g2, g3⟩ := or_up hn (show u < 2 ^ n by omega) hw c1
    obtain ⟨k1, k2, k3⟩ := h.2 (pop u) w hp hw
    by_cases c2 : AL (pop u) / 2 ^ w % 2 = 1
    · have k2 := k2 c2
      unfold Lof
      by_cases c3 : mM n KP AL (u ||| 2 ^ w) = 0
      · rw [if_pos (Or.inr (Or.inr c3)), if_pos c3]
        exact ⟨fun z => absurd z.symm h0, fun z => by omega⟩
      · have hno : ¬ (u / 2 ^ w % 2 = 1 ∨ ¬ AL (pop u) / 2 ^ w % 2 = 1 ∨ mM n KP AL (u ||| 2 ^ w) = 0) := fun z => z.elim c1 (fun z => z.elim (fun z => z c2) c3)
        rw [if_neg hno, if_neg c3, g3]
        have g4 : (n - pop u) * C = (n - (pop u + 1)) * C + C := by
          rw [show n - pop u = (n - (pop u + 1)) + 1 by omega, Nat.add_mul, Nat.one_mul]
        have g5 := hb1 _ g2
        rw [g3] at g5
        generalize (n - pop u) * C = A at *
        generalize (n - (pop u + 1)) * C = A' at *
        exact ⟨fun z => ⟨c1, by omega⟩, fun z => by omega⟩
    · have k3 := k3 c2
      rw [if_pos (Or.inr (Or.inl c2))]
      exact ⟨fun z => absurd z.symm h0, fun z => by omega⟩
theorem fw_ok {n u : Nat} {KP : Nat → Nat → Nat} {AL : Nat → Nat} (hn : n ≤ 7) (hu : u < 2 ^ n - 1) (h0 : mM n KP AL u ≠ 0) : fw n KP AL u < n ∧ ¬ u / 2 ^ fw n KP AL u % 2 = 1 ∧ mM n KP AL (u ||| 2 ^ fw n KP AL u) ≠ 0 := by
  have he := h0
  rw [mM_eq hn hu] at he
  obtain ⟨w, h1, h2⟩ := mw_ex he
  rw [← mM_eq hn hu] at h2
  have hlt : fw n KP AL u < n := by
    refine Nat.lt_of_not_le fun hge => ?_
    have := sr_no (fwb n KP AL u) n 0 w (Nat.zero_le _) (by unfold fw at hge; omega)
    rw [show fwb n KP AL u w = true from decide_eq_true h2] at this
    cases this
  have hy := sr_yes (fwb n KP AL u) n 0 (by unfold fw at hlt; omega)
  have hy : kw KP AL (mM n KP AL) (pop u) (fw n KP AL u) u = mM n KP AL u := of_decide_eq_true hy
  unfold kw at hy
  split at hy
  · exact absurd hy.symm h0
  · rename_i c
    exact ⟨hlt, fun z => c (Or.inl z), fun z => c (Or.inr (Or.inr z))⟩
def usd (n : Nat) (KP : Nat → Nat → Nat) (AL : Nat → Nat) : Nat → Nat
  | 0 => 0
  | i + 1 => usd n KP AL i ||| 2 ^ fw n KP AL (usd n KP AL i)
/-- the first stanza of the poem of smallest cost -/
def frow (n : Nat) (KP : Nat → Nat → Nat) (AL : Nat → Nat) (i : Nat) : Nat := fw n KP AL (usd n KP AL i)
theorem usd_ok {n : Nat} {KP : Nat → Nat → Nat} {AL : Nat → Nat} (hn : n ≤ 7) (h0 : mM n KP AL 0 ≠ 0) : ∀ i, i ≤ n → usd n KP AL i < 2 ^ n ∧ pop (usd n KP AL i) = i ∧ mM n KP AL (usd n KP AL i) ≠ 0
  | 0, _ => ⟨Nat.two_pow_pos n, (by decide : pop 0 = 0), h0⟩
  | i + 1, hi => by
    obtain ⟨h1, h2, h3⟩ := usd_ok hn h0 i (by omega)
    have hne : usd n KP AL i ≠ 2 ^ n - 1 := fun z => by rw [z, (pop_tab n (by omega)).1] at h2; omega
    obtain ⟨g1, g2, g3⟩ := fw_ok hn (show usd n KP AL i < 2 ^ n - 1 by omega) h3
    obtain ⟨-, k2, k3⟩ := or_up hn h1 g1 g2
    exact ⟨k2, by show pop (usd n KP AL i ||| 2 ^ fw n KP AL (usd n KP AL i)) = i + 1; rw [k3, h2], g3⟩
theorem usd_lt {n i : Nat} {KP : Nat → Nat → Nat} {AL : Nat → Nat} (hn : n ≤ 7) (h0 : mM n KP AL 0 ≠ 0) (hi : i < n) : usd n KP AL i < 2 ^ n - 1 ∧ pop (usd n KP AL i) = i ∧ mM n KP AL (usd n KP AL i) ≠ 0 := by
  obtain ⟨h1, h2, h3⟩ := usd_ok hn h0 i (by omega)
  have hne : usd n KP AL i ≠ 2 ^ n - 1 := fun z => by rw [z, (pop_tab n (by omega)).1] at h2; omega
  exact ⟨by omega, h2, h3⟩
theorem frow_lt {n i : Nat} {KP : Nat → Nat → Nat} {AL : Nat → Nat} (hn : n ≤ 7) (h0 : mM n KP AL 0 ≠ 0) (hi : i < n) : frow n KP AL i < n := by
  obtain ⟨h1, -, h3⟩ := usd_lt hn h0 hi
  exact (fw_ok hn h1 h3).1
/-! the quick bound -/
def maxN (f : Nat → Nat) : Nat → Nat
  | 0 => 0
  | w + 1 => max (maxN f w) (f w)
theorem maxN_ge {f : Nat → Nat} {w : Nat} : ∀ {m : Nat}, w < m → f w ≤ maxN f m
  | 0, h => absurd h (Nat.not_lt_zero w)
  | m + 1, h => by
    unfold maxN
    by_cases e : w = m
    · subst e; exact Nat.le_max_right _ _
    · exact Nat.le_trans (maxN_ge (m := m) (by omega)) (Nat.le_max_left _ _)
theorem maxN_le {f : Nat → Nat} {B : Nat} : ∀ {m : Nat}, (∀ w, w < m → f w ≤ B) → maxN f m ≤ B
  | 0, _ => Nat.zero_le _
  | m + 1, h => Nat.max_le.mpr ⟨maxN_le (fun w hw => h w (by omega)), h m (by omega)⟩
theorem sumN_mono {f : Nat → Nat} {a : Nat} : ∀ {b : Nat}, a ≤ b → sumN f a ≤ sumN f b
  | 0, h => by rw [Nat.le_zero.mp h]; exact Nat.le_refl _
  | b + 1, h => by
    by_cases e : a = b + 1
    · rw [e]; exact Nat.le_refl _
    · have := sumN_mono (f := f) (a := a) (b := b) (by omega)
      show sumN f a ≤ sumN f b + f b
      omega
theorem sumN_le {f g : Nat → Nat} : ∀ {n : Nat}, (∀ i, i < n → f i ≤ g i) → sumN f n ≤ sumN g n
  | 0, _ => Nat.le_refl _
  | n + 1, h => by
    have h1 := sumN_le (n := n) (fun i hi => h i (by omega))
    have h2 := h n (by omega)
    unfold sumN
    omega
theorem sumN_congr {f g : Nat → Nat} : ∀ {n : Nat}, (∀ i, i < n → f i = g i) → sumN f n = sumN g n
  | 0, _ => rfl
  | n + 1, h => by
    unfold sumN
    rw [sumN_congr (n := n) (fun i hi => h i (by omega)), h n (by omega)]
theorem sumN_bd {f : Nat → Nat} {B : Nat} : ∀ {n : Nat}, (∀ i, i < n → f i ≤ B) → sumN f n ≤ n * B
  | 0, _ => Nat.zero_le _
  | n + 1, h => by
    have h1 := sumN_bd (n := n) (fun i hi => h i (by omega))
    have h2 := h n (by omega)
    unfold sumN
    rw [Nat.add_mul, Nat.one_mul]
    omega
theorem sumN_one {P Q : Nat → Prop} [DecidablePred P] [DecidablePred Q] {g : Nat → Nat} {w : Nat} : ∀ {n : Nat}, (∀ v, v < n → (Q v ↔ P v ∨ v = w)) → ¬ P w → sumN (fun v => if Q v then g v else 0) n = sumN (fun v => if P v then g v else 0) n + if w < n then g w else 0
  | 0, _, _ => by simp [sumN]
  | n + 1, h, hw => by
    have ih := sumN_one (P := P) (Q := Q) (g := g) (n := n) (fun v hv => h v (by omega)) hw
    have h2 := h n (by omega)
    unfold sumN
    rw [ih]
    by_cases e : n = w
    · subst e
      rw [if_pos (h2.mpr (Or.inr rfl)), if_neg hw, if_neg (by omega), if_pos (by omega)]
    · by_cases c : P n
      · rw [if_pos (h2.mpr (Or.inl c)), if_pos c]
        by_cases c2 : w < n
        · rw [if_pos c2, if_pos (by omega)]; omega
        · rw [if_neg c2, if_neg (by omega)]; omega
      · rw [if_neg (fun z => (h2.mp z).elim c e), if_neg c]
        by_cases c2 : w < n
        · rw [if_pos c2, if_pos (by omega)]; omega
        · rw [if_neg c2, if_neg (by omega)]
def mol (n : Nat) (KP : Nat → Nat → Nat) (l : Nat) : Nat := maxN (fun w => KP l w) n
def moW (n : Nat) (KP : Nat → Nat → Nat) (w : Nat) : Nat := maxN (fun l => KP l w) n
def atm (n : Nat) (KP : Nat → Nat → Nat) : Nat := min (sumN (mol n KP) n) (sumN (moW n KP) n)
theorem atm_ge {n : Nat} {KP : Nat → Nat → Nat} {AL : Nat → Nat} (hn : n ≤ 7) : mM n KP AL 0 ≤ atm n KP + 1 := by
  have ht := (pop_tab n (by omega))
  have a1 : ∀ u, u < 2 ^ n → sumN (mol n KP) (pop u) + mM n KP AL u ≤ 1 + sumN (mol n KP) n := by
    refine down hn ?_ (fun u hu ih => ?_)
    · rw [mM_top hn, ht.1]; omega
    · have hp := (ht.2 u (by omega)).2 (by omega)
      have hm := sumN_mono (f := mol n KP) (show pop u ≤ n by omega)
      have : mw KP AL (mM n KP AL) (pop u) u n ≤ 1 + sumN (mol n KP) n - sumN (mol n KP) (pop u) := mw_le (fun w hw => by
        unfold kw
        split
        · omega
        · rename_i c
          have hb : ¬ u / 2 ^ w % 2 = 1 := fun z => c (Or.inl z)
          have g1 := ih w hw hb
          obtain ⟨-, -, g3⟩ := or_up hn (show u < 2 ^ n by omega) hw hb
          have g2 : KP (pop u) w ≤ mol n KP (pop u) := maxN_ge (f := fun w => KP (pop u) w) hw
          have g4 : sumN (mol n KP) (pop u + 1) = sumN (mol n KP) (pop u) + mol n KP (pop u) := rfl
          rw [g3, g4] at g1
          omega)
      rw [mM_eq hn hu]
      omega
  have hle : ∀ u, sumN (fun v => if u / 2 ^ v % 2 = 1 then moW n KP v else 0) n ≤ sumN (moW n KP) n := fun u => sumN_le (fun i _ => by
    show (if u / 2 ^ i % 2 = 1 then moW n KP i else 0) ≤ moW n KP i
    split <;> omega)
  have a2 : ∀ u, u < 2 ^ n → sumN (fun v => if u / 2 ^ v % 2 = 1 then moW n KP v else 0) n + mM n KP AL u ≤ 1 + sumN (moW n KP) n := by
    refine down hn ?_ (fun u hu ih => ?_)
    · rw [mM_top hn]; have := hle (2 ^ n - 1); omega
    · have hp := (ht.2 u (by omega)).2 (by omega)
      have hm := hle u
      have : mw KP AL (mM n KP AL) (pop u) u n ≤ 1 + sumN (moW n KP) n - sumN (fun v => if u / 2 ^ v % 2 = 1 then moW n KP v else 0) n := mw_le (fun w hw => by
        unfold kw
        split
        · omega
        · rename_i c
          have hb : ¬ u / 2 ^ w % 2 = 1 := fun z => c (Or.inl z)
          have g1 := ih w hw hb
          have g2 : KP (pop u) w ≤ moW n KP w := maxN_ge (f := fun l => KP l w) hp
          have g4 := sumN_one (P := fun v => u / 2 ^ v % 2 = 1) (Q := fun v => (u ||| 2 ^ w) / 2 ^ v % 2 = 1) (g := moW n KP) (w := w) (n := n) (fun v _ => by
            rw [bit_dm, bit_dm, Nat.testBit_or, Bool.or_eq_true, Nat.testBit_two_pow, decide_eq_true_eq]
            exact ⟨fun z => z.imp id Eq.symm, fun z => z.imp id Eq.symm⟩) hb
          rw [if_pos hw] at g4
          rw [g4] at g1
          omega)
      rw [mM_eq hn hu]
      omega
  have z1 := a1 0 (Nat.two_pow_pos n)
  have z2 := a2 0 (Nat.two_pow_pos n)
  unfold atm
  omega
/-! the best of several -/
def bst (mk : Nat → Nat) : Nat → Nat × Nat
  | 0 => (0, 0)
  | k + 1 => if (bst mk k).1 < mk k then (mk k, k) else bst mk k
theorem bst_le (mk : Nat → Nat) : ∀ k, (bst mk k).1 ≠ 0 → (bst mk k).2 < k ∧ mk (bst mk k).2 = (bst mk k).1
  | 0, h => absurd rfl h
  | k + 1, h => by
    unfold bst at h ⊢
    by_cases c : (bst mk k).1 < mk k
    · rw [if_pos c]; exact ⟨by show k < k + 1; omega, rfl⟩
    · rw [if_neg c] at h ⊢
      obtain ⟨h1, h2⟩ := bst_le mk k h
      exact ⟨by omega, h2⟩
/-! a poem's kept places and allowed words -/
def kpI (f : Nat → Nat) (p : Pv) (s : Nat) : Nat → (Nat → Nat) → Nat → Nat
  | 0, K => K
  | i + 1, K => upn (kpI f p s i K) (8 * itr f s i + pst p s i) (kpI f p s i K (8 * itr f s i + pst p s i) + 1)
def kpS (n : Nat) (f : Nat → Nat) (p : Pv) : Nat → Nat → Nat
  | 0 => fun _ => 0
  | s + 1 => kpI f p s n (kpS n f p s)
def alI (f : Nat → Nat) (p : Pv) (s : Nat) : Nat → (Nat → Nat) → Nat → Nat
  | 0, A => A
  | i + 1, A => if plk p s / 2 ^ i % 2 = 1 then upn (alI f p s i A) (itr f s i) (alI f p s i A (itr f s i) &&& 2 ^ pst p s i) else alI f p s i A
def alS (n : Nat) (f : Nat → Nat) (p : Pv) : Nat → Nat → Nat
  | 0 => fun _ => 2 ^ n - 1
  | s + 1 => alI f p s n (alS n f p s)
def KPp (n : Nat) (f : Nat → Nat) (p : Pv) (l w : Nat) : Nat := kpS n f p (pc p) (8 * l + w)
def ALp (n : Nat) (f : Nat → Nat) (p : Pv) : Nat → Nat := alS n f p (pc p)
theorem alI_le {f : Nat → Nat} {p : Pv} {s : Nat} {A : Nat → Nat} (l : Nat) : ∀ i, alI f p s i A l ≤ A l
  | 0 => Nat.le_refl _
  | i + 1 => by
    have ih := alI_le (f := f) (p := p) (s := s) (A := A) l i
    unfold alI
    split
    · unfold upn
      split
      · rename_i e; rw [← e]; exact Nat.le_trans Nat.and_le_left ih
      · exact ih
    · exact ih
theorem alS_lt {n : Nat} {f : Nat → Nat} {p : Pv} (l : Nat) : ∀ s, alS n f p s l < 2 ^ n
  | 0 => by have := Nat.two_pow_pos n; show 2 ^ n - 1 < 2 ^ n; omega
  | s + 1 => Nat.lt_of_le_of_lt (alI_le l n) (alS_lt l s)
theorem kpI_le {f : Nat → Nat} {p : Pv} {s : Nat} {K : Nat → Nat} (x : Nat) : ∀ i, kpI f p s i K x ≤ K x + i
  | 0 => Nat.le_refl _
  | i + 1 => by
    have ih := kpI_le (f := f) (p := p) (s := s) (K := K) x i
    unfold kpI upn
    split
    · rename_i e; rw [← e]; omega
    · omega
theorem kpS_le {n : Nat} {f : Nat → Nat} {p : Pv} (x : Nat) : ∀ s, kpS n f p s x ≤ s * n
  | 0 => Nat.zero_le _
  | s + 1 => by
    have ih := kpS_le (n := n) (f := f) (p := p) x s
    have := kpI_le (f := f) (p := p) (s := s) (K := kpS n f p s) x n
    unfold kpS
    rw [Nat.add_mul, Nat.one_mul]
    omega
