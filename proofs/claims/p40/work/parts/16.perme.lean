/-! Permutation: orders, roots, kinds, cycles -/
/-- the first number from k on with p, at most z further -/
def sr (p : Nat → Bool) : Nat → Nat → Nat
  | 0, k => k
  | z + 1, k => if p k = true then k else sr p z (k + 1)
theorem sr_ge (p : Nat → Bool) : ∀ z k, k ≤ sr p z k
  | 0, _ => Nat.le_refl _
  | z + 1, k => by
    unfold sr
    split
    · exact Nat.le_refl _
    · have := sr_ge p z (k + 1); omega
theorem sr_le (p : Nat → Bool) : ∀ z k, sr p z k ≤ k + z
  | 0, _ => Nat.le_refl _
  | z + 1, k => by
    unfold sr
    split
    · omega
    · have := sr_le p z (k + 1); omega
theorem sr_no (p : Nat → Bool) : ∀ z k j, k ≤ j → j < sr p z k → p j = false
  | 0, k, j, h1, h2 => by unfold sr at h2; omega
  | z + 1, k, j, h1, h2 => by
    unfold sr at h2
    split at h2
    · omega
    · by_cases e : j = k
      · subst e; simpa using (by assumption : ¬ p j = true)
      · exact sr_no p z (k + 1) j (by omega) h2
theorem sr_yes (p : Nat → Bool) : ∀ z k, sr p z k < k + z → p (sr p z k) = true
  | 0, k, h => by unfold sr at h; omega
  | z + 1, k, h => by
    unfold sr at h ⊢
    split
    · assumption
    · rename_i hp
      rw [if_neg hp] at h
      exact sr_yes p z (k + 1) (by omega)
theorem sr_at {p : Nat → Bool} {z k m : Nat} (h1 : k ≤ m) (h2 : m < k + z) (hm : p m = true) (hno : ∀ j, k ≤ j → j < m → p j = false) : sr p z k = m := by
  have g1 := sr_ge p z k
  have g2 := sr_no p z k
  rcases Nat.lt_trichotomy (sr p z k) m with h | h | h
  · have := sr_yes p z k (by omega)
    rw [hno _ g1 h] at this; cases this
  · exact h
  · rw [g2 m h1 h] at hm; cases hm
theorem sr_congr {p q : Nat → Bool} : ∀ {z k : Nat}, (∀ j, k ≤ j → j < k + z → p j = q j) → sr p z k = sr q z k
  | 0, _, _ => rfl
  | z + 1, k, h => by
    unfold sr
    rw [h k (Nat.le_refl _) (by omega), sr_congr (z := z) (k := k + 1) (fun j h1 h2 => h j (by omega) (by omega))]
theorem pk_R {n : Nat} {f g : Nat → Nat} {A B : Prop} (hn : n ≤ 7) (hf : ∀ i, i < n → f i < 8) (hg : ∀ i, i < n → g i < 8) (t : (∀ i, i < n → f i = g i) → A) (e : ¬ (∀ i, i < n → f i = g i) → B) : (R (nrm n f) = R (nrm n g) → A) ∧ (¬ R (nrm n f) = R (nrm n g) → B) := by
  refine ⟨fun h => t (fun i hi => ?_), fun h => e (fun z => h (R_nrm z))⟩
  have := R_inj (nrm_b8 hf) (nrm_b8 hg) h i (by omega)
  rwa [nrm_in hi, nrm_in hi] at this
def idb (n : Nat) (f : Nat → Nat) (k : Nat) : Bool := decide (∀ i, i < n → itr f k i = i)
/-- the order, if it is at most 12 -/
def ord (n : Nat) (f : Nat → Nat) : Nat := sr (idb n f) 11 1
theorem sp_Perm_order {n : Nat} {f : Nat → Nat} (hn : n ≤ 7) (hf : PM n f) (h : xHp) : Spec g_Perm_order [.int (R (nrm n f)), .int (nI n)] h (some (.int (nI (ord n f)))) h := by
  refine Spec.of (by decide +kernel) (Nat.le_of_ble_eq_true rfl) ⟨_, rfl⟩ rfl rfl (fun c hc => by cases hc) (fun Q hQ => ?_)
  refine xgoal [(10, [0, 1, 2, 3, 4])] 100 ok_Perm_order ?_
  refine xci (sp_Row_ascending hn h) ?_
  have loop : ∀ z k, k + z = 12 → 1 ≤ k → ord n f = sr (idb n f) (12 - k) k → xAt (h.1, h.2.1) g_Perm_order Q 10 [(0, .int (R (nrm n f))), (1, .int (nI n)), (2, .int (R (nrm n (fun i => i)))), (3, .int (R (nrm n (itr f k)))), (4, .int (nI k))] [] h := by
    intro z
    induction z with
    | zero =>
      intro k hk hk1 ho
      have : k = 12 := by omega
      subst this
      have ho : ord n f = 12 := ho
      rw [ho] at hQ
      refine xgoal [(10, [0, 1, 2, 3, 4])] 100 ok_Perm_order ?_
      refine pk_R hn (fun i hi => by have := itr_lt hf.1 12 i hi; omega) (fun i hi => by omega) (fun c => hQ) (fun c => ?_)
      exact pk_le 12 12 (fun c => hQ) (fun c => absurd c (by omega))
    | succ z ih =>
      intro k hk hk1 ho
      have e : 12 - k = (12 - (k + 1)) + 1 := by omega
      refine xgoal [(10, [0, 1, 2, 3, 4])] 100 ok_Perm_order ?_
      rw [e] at ho
      unfold sr at ho
      refine pk_R hn (fun i hi => by have := itr_lt hf.1 k i hi; omega) (fun i hi => by omega) (fun c => ?_) (fun c => ?_)
      · have hb : idb n f k = true := decide_eq_true c
        rw [if_pos hb] at ho
        rw [ho] at hQ
        exact hQ
      · have hb : ¬ idb n f k = true := fun z => c (of_decide_eq_true z)
        rw [if_neg hb] at ho
        refine pk_le 12 k (fun c => absurd c (by omega)) (fun c => ?_)
        have e2 : R (nrm n (itr f (k + 1))) = R (nrm n (fun i => itr f k (f i))) := R_nrm (fun i _ => itr_add f k 1 i)
        refine xci (sp_Row_turned hn (fun i hi => by have := itr_lt hf.1 k i hi; omega) hf.1 h) ?_
        have ih := ih (k + 1) (by omega) (by omega) ho
        rw [e2, ← nI_1 k] at ih
        exact ih
  exact loop 11 1 rfl (Nat.le_refl _) rfl
/-! roots -/
def rtb (n : Nat) (f : Nat → Nat) (k m : Nat) : Bool := decide (∀ i, i < n → itr (unr n m) k i = f i)
def rt (n : Nat) (f : Nat → Nat) (k : Nat) : Nat := sr (rtb n f k) (fct n) 0
theorem sp_Perm_firstRoot {n k : Nat} {f : Nat → Nat} (hn1 : 2 ≤ n) (hn : n ≤ 7) (hf : PM n f) (hk : k < 2147483648) (h : xHp) : Spec g_Perm_firstRoot [.int (R (nrm n f)), .int (nI k), .int (nI n)] h (some (.int (if rt n f k < fct n then R (nrm n (unr n (rt n f k))) else -1))) h := by
  refine Spec.of (by decide +kernel) (Nat.le_of_ble_eq_true rfl) ⟨_, rfl⟩ rfl rfl (fun c hc => by cases hc) (fun Q hQ => ?_)
  have h5 := fct_le hn
  refine xgoal [(8, [0, 1, 2, 3, 4])] 100 ok_Perm_firstRoot ?_
  refine xci (sp_Perm_count hn1 hn h) ?_
  have key := up_loop (P := fun m => rt n f k = sr (rtb n f k) (fct n - m) m → xAt (h.1, h.2.1) g_Perm_firstRoot Q 8 [(0, .int (R (nrm n f))), (1, .int (nI k)), (2, .int (nI n)), (3, .int (nI (fct n))), (4, .int (nI m))] [] h) (fct n) ?_ (fun m hm ih => ?_) 0 (Nat.zero_le _)
  · exact key rfl
  · intro hr
    rw [Nat.sub_self] at hr
    have hr : rt n f k = fct n := hr
    rw [if_neg (by omega)] at hQ
    refine xgoal [(8, [0, 1, 2, 3, 4])] 100 ok_Perm_firstRoot ?_
    exact pk_le (fct n) (fct n) (fun c => hQ) (fun c => absurd c (by omega))
  · intro hr
    have e : fct n - m = (fct n - (m + 1)) + 1 := by omega
    rw [e] at hr
    unfold sr at hr
    have pm := unr_PM n m
    refine xgoal [(8, [0, 1, 2, 3, 4])] 100 ok_Perm_firstRoot ?_
    refine pk_le (fct n) m (fun c => absurd c (by omega)) (fun c => ?_)
    refine xci (sp_Perm_numbered (by omega) hn (by omega) h) ?_
    refine xci (sp_Perm_repeated hn pm hk h) ?_
    refine pk_R hn (fun i hi => by have := itr_lt pm.1 k i hi; omega) (fun i hi => by have := hf.1 i hi; omega) (fun c2 => ?_) (fun c2 => ?_)
    · have hb : rtb n f k m = true := decide_eq_true c2
      rw [if_pos hb] at hr
      rw [hr, if_pos hm] at hQ
      exact hQ
    · have hb : ¬ rtb n f k m = true := fun z => c2 (of_decide_eq_true z)
      rw [if_neg hb] at hr
      have ih := ih hr
      rw [← nI_1 m] at ih
      exact ih
/-! kinds -/
def kd (kind k n i : Nat) : Nat := match kind with
  | 1 => if i % 2 = 0 then n - 1 - i / 2 else i / 2
  | 2 => n - 1 - i
  | 3 => if i + k < n then i + k else i + k - n
  | 4 => if i = 0 then k else if i = k then 0 else i
  | 5 => if i < (n + 1) / 2 then 2 * i else 2 * (i - (n + 1) / 2) + 1
  | _ => i
def kdc : Bool := (List.range 8).all fun n => (List.range 6).all fun kind => (List.range n).all fun k => (List.range n).all fun i => Nat.blt (kd kind k n i) n && (List.range n).all fun j => !(Nat.beq (kd kind k n i) (kd kind k n j)) || Nat.beq i j
theorem kdc_ok : kdc = true := by decide +kernel
theorem kd_PM {kind k n : Nat} (hn : n ≤ 7) (hk : k < n) (hd : kind < 6) : PM n (kd kind k n) := by
  have h1 := List.all_eq_true.mp kdc_ok n (List.mem_range.mpr (by omega))
  have h2 := List.all_eq_true.mp h1 kind (List.mem_range.mpr hd)
  have h3 := List.all_eq_true.mp h2 k (List.mem_range.mpr hk)
  refine ⟨fun i hi => ?_, fun i j hi hj e => ?_⟩
  · have h4 := List.all_eq_true.mp h3 i (List.mem_range.mpr hi)
    rw [Bool.and_eq_true] at h4
    exact Nat.le_of_ble_eq_true h4.1
  · have h4 := List.all_eq_true.mp h3 i (List.mem_range.mpr hi)
    rw [Bool.and_eq_true] at h4
    have h5 := List.all_eq_true.mp h4.2 j (List.mem_range.mpr hj)
    rw [e, Nat.beq_refl] at h5
    exact nb_eq h5
theorem n_div2 {a : Nat} (ha : a < 2147483648) : nI a / nI 2 = nI (a / 2) := pk_div ha (by omega) (by omega)
theorem n_mod2 {a : Nat} (ha : a < 2147483648) : nI a - nI a / nI 2 * nI 2 = nI (a % 2) := pk_rem ha (by omega) (by omega)
theorem n_ne2 : ¬ nI 2 = 0 := nI_ne0 (by omega) (by omega)
theorem sp_Perm_lineOfWeave {n i : Nat} (hn : n ≤ 7) (hi : i < n) (h : xHp) : Spec g_Perm_lineOfWeave [.int (nI n), .int (nI i)] h (some (.int (nI (kd 5 0 n i)))) h := by
  refine Spec.of (by decide +kernel) (Nat.le_of_ble_eq_true rfl) ⟨_, rfl⟩ rfl rfl (fun c hc => by cases hc) (fun Q hQ => ?_)
  refine xgoal [] 100 ok_Perm_lineOfWeave ?_
  have e1 : (nI n + nI 1) / nI 2 = nI ((n + 1) / 2) := by rw [nI_add, n_div2 (by omega)]
  refine And.intro n_ne2 ?_
  have hQ : Q (some (.int (nI (if i < (n + 1) / 2 then 2 * i else 2 * (i - (n + 1) / 2) + 1)))) h := hQ
  refine pk_le ((n + 1) / 2) i (fun c => ?_) (fun c => ?_) e1 rfl
  · rw [if_neg (by omega)] at hQ
    have e2 : nI 2 * (nI i - (nI n + nI 1) / nI 2) + nI 1 = nI (2 * (i - (n + 1) / 2) + 1) := by rw [e1, pk_sub c, n_mul, nI_add]
    rw [← e2] at hQ
    exact hQ
  · rw [if_pos c, ← n_mul] at hQ
    exact hQ
theorem sp_Perm_lineOfKind {kind k n i : Nat} (hn : n ≤ 7) (hi : i < n) (hk : k < n) (hd : kind < 6) (h : xHp) : Spec g_Perm_lineOfKind [.int (nI kind), .int (nI k), .int (nI n), .int (nI i)] h (some (.int (nI (kd kind k n i)))) h := by
  refine Spec.of (by decide +kernel) (Nat.le_of_ble_eq_true rfl) ⟨_, rfl⟩ rfl rfl (fun c hc => by cases hc) (fun Q hQ => ?_)
  refine xgoal [] 100 ok_Perm_lineOfKind ?_
  refine pk_eq kind 1 (fun c => ?_) (fun c1 => ?_)
  · subst c
    have hQ : Q (some (.int (nI (if i % 2 = 0 then n - 1 - i / 2 else i / 2)))) h := hQ
    refine And.intro n_ne2 ?_
    refine pk_eq (i % 2) 0 (fun c => ?_) (fun c => ?_) (n_mod2 (by omega)) rfl
    · rw [if_pos c] at hQ
      refine And.intro n_ne2 ?_
      have e : nI n - nI 1 - nI i / nI 2 = nI (n - 1 - i / 2) := by rw [n_div2 (by omega), pk_sub (by omega), pk_sub (by omega)]
      rw [← e] at hQ
      exact hQ
    · rw [if_neg c] at hQ
      refine And.intro n_ne2 ?_
      rw [← n_div2 (by omega)] at hQ
      exact hQ
  refine pk_eq kind 2 (fun c => ?_) (fun c2 => ?_)
  · subst c
    have hQ : Q (some (.int (nI (n - 1 - i)))) h := hQ
    have e : nI n - nI 1 - nI i = nI (n - 1 - i) := by rw [pk_sub (by omega), pk_sub (by omega)]
    rw [← e] at hQ
    exact hQ
  refine pk_eq kind 3 (fun c => ?_) (fun c3 => ?_)
  · subst c
    have hQ : Q (some (.int (nI (if i + k < n then i + k else i + k - n)))) h := hQ
    refine pk_le n (i + k) (fun c => ?_) (fun c => ?_) rfl (nI_add i k)
    · rw [if_neg (by omega)] at hQ
      have e : nI i + nI k - nI n = nI (i + k - n) := by rw [nI_add, pk_sub c]
      rw [← e] at hQ
      exact hQ
    · rw [if_pos c, ← nI_add] at hQ
      exact hQ
  refine pk_eq kind 4 (fun c => ?_) (fun c4 => ?_)
  · subst c
    have hQ : Q (some (.int (nI (if i = 0 then k else if i = k then 0 else i)))) h := hQ
    refine pk_eq i 0 (fun c => ?_) (fun c => ?_)
    · rw [if_pos c] at hQ; exact hQ
    · rw [if_neg c] at hQ
      refine pk_eq i k (fun c => ?_) (fun c => ?_)
      · rw [if_pos c] at hQ; exact hQ
      · rw [if_neg c] at hQ; exact hQ
  refine pk_eq kind 5 (fun c => ?_) (fun c5 => ?_)
  · subst c
    exact xci (sp_Perm_lineOfWeave hn hi h) hQ
  · have : kind = 0 := by omega
    subst this
    exact hQ
theorem sp_Perm_ofKind {kind k n : Nat} (hn : n ≤ 7) (hk : k < n) (hd : kind < 6) (h : xHp) : Spec g_Perm_ofKind [.int (nI kind), .int (nI k), .int (nI n)] h (some (.int (R (nrm n (kd kind k n))))) h := by
  refine Spec.of (by decide +kernel) (Nat.le_of_ble_eq_true rfl) ⟨_, rfl⟩ rfl rfl (fun c hc => by cases hc) (fun Q hQ => ?_)
  have pm := kd_PM hn hk hd
  refine xgoal [(5, [0, 1, 2, 3, 4])] 100 ok_Perm_ofKind ?_
  refine up_loop (P := fun i => xAt (h.1, h.2.1) g_Perm_ofKind Q 5 [(0, .int (nI kind)), (1, .int (nI k)), (2, .int (nI n)), (3, .int (R (nrm i (kd kind k n)))), (4, .int (nI i))] [] h) n ?_ (fun i hi ih => ?_) 0 (Nat.zero_le _)
  · refine xgoal [(5, [0, 1, 2, 3, 4])] 100 ok_Perm_ofKind ?_
    exact pk_le n n (fun c => hQ) (fun c => absurd c (by omega))
  · refine xgoal [(5, [0, 1, 2, 3, 4])] 100 ok_Perm_ofKind ?_
    have g1 := pm.1 i hi
    refine pk_le n i (fun c => absurd c (by omega)) (fun c => ?_)
    refine xci (sp_Perm_lineOfKind hn hi hk hd _) ?_
    refine xci (sp_Row_with (nrm_b8 (fun j hj => by have := pm.1 j (by omega); omega)) (by omega) (by omega) _) ?_
    have e : R (upn (nrm i (kd kind k n)) i (kd kind k n i)) = R (nrm (i + 1) (kd kind k n)) := R_push
    rw [← e, ← nI_1 i] at ih
    exact ih
/-! cycles -/
/-- how many lines the cycle of a line has -/
def cyl (n : Nat) (f : Nat → Nat) (i : Nat) : Nat := sr (fun m => decide (itr f m i = i)) n 1
theorem cyl_ex {n i : Nat} {f : Nat → Nat} (hf : PM n f) (hi : i < n) : ∃ m, 1 ≤ m ∧ m ≤ n ∧ itr f m i = i := by
  refine Classical.byContradiction fun hno => ?_
  have h := ct_pig (n := n + 1) (v := n) (f := fun m => itr f m i) (p := fun _ => true) (fun a b ha hb _ _ e => ?_) (fun a _ _ => itr_lt hf.1 a i hi)
  · rw [ct_true] at h; omega
  · have key : ∀ a b, a < b → b ≤ n → itr f a i = itr f b i → False := by
      intro a b h1 h2 e
      have e2 : itr f b i = itr f a (itr f (b - a) i) := by rw [← itr_add, show a + (b - a) = b by omega]
      rw [e2] at e
      exact hno ⟨b - a, by omega, by omega, (itr_inj hf a _ _ hi (itr_lt hf.1 _ i hi) e).symm⟩
    rcases Nat.lt_trichotomy a b with g | g | g
    · exact (key a b g (by omega) e).elim
    · exact g
    · exact (key b a g (by omega) e.symm).elim
theorem cyl_spec {n i : Nat} {f : Nat → Nat} (hf : PM n f) (hi : i < n) : 1 ≤ cyl n f i ∧ cyl n f i ≤ n ∧ itr f (cyl n f i) i = i ∧ ∀ m, 1 ≤ m → m < cyl n f i → ¬ itr f m i = i := by
  obtain ⟨m, h1, h2, h3⟩ := cyl_ex hf hi
  have g1 := sr_ge (fun m => decide (itr f m i = i)) n 1
  have g2 := sr_no (fun m => decide (itr f m i = i)) n 1
  have g3 : cyl n f i ≤ m := by
    refine Nat.le_of_not_lt fun z => ?_
    have := g2 m h1 z
    simp [h3] at this
  have g4 := sr_yes (fun m => decide (itr f m i = i)) n 1 (by unfold cyl at g3; omega)
  exact ⟨g1, by omega, of_decide_eq_true g4, fun j h4 h5 z => by have := g2 j h4 h5; simp [z] at this⟩
def smA (f : Nat → Nat) (i : Nat) : Nat → Bool
  | 0 => true
  | m + 1 => smA f i m && decide (i < itr f (m + 1) i)
theorem smA_all {f : Nat → Nat} {i : Nat} : ∀ {m : Nat}, smA f i m = true ↔ ∀ j, 1 ≤ j → j ≤ m → i < itr f j i
  | 0 => ⟨fun _ j h1 h2 => absurd h2 (by omega), fun _ => rfl⟩
  | m + 1 => by
    unfold smA
    rw [Bool.and_eq_true, smA_all (m := m), decide_eq_true_eq]
    constructor
    · rintro ⟨h1, h2⟩ j g1 g2
      by_cases e : j = m + 1
      · subst e; exact h2
      · exact h1 j g1 (by omega)
    · intro h1
      exact ⟨fun j g1 g2 => h1 j g1 (by omega), h1 (m + 1) (by omega) (Nat.le_refl _)⟩
/-- whether a line is the smallest one of its cycle -/
def sm (n : Nat) (f : Nat → Nat) (i : Nat) : Bool := smA f i (cyl n f i - 1)
theorem sp_Perm_cycleOf {n i : Nat} {f : Nat → Nat} (hn : n ≤ 7) (hf : PM n f) (hi : i < n) (h : xHp) : Spec g_Perm_cycleOf [.int (R (nrm n f)), .int (nI i), .int (nI n)] h (some (.int (nI (if sm n f i = true then cyl n f i else 0)))) h := by
  refine Spec.of (by decide +kernel) (Nat.le_of_ble_eq_true rfl) ⟨_, rfl⟩ rfl rfl (fun c hc => by cases hc) (fun Q hQ => ?_)
  obtain ⟨c1, c2, c3, c4⟩ := cyl_spec hf hi
  have hb : b8 (nrm n f) := nrm_b8 (fun j hj => by have := hf.1 j hj; omega)
  refine xgoal [(9, [0, 1, 2, 3, 4])] 100 ok_Perm_cycleOf ?_
  have sp := sp_Row_entry hb (i := i) (by omega) h
  rw [nrm_in hi] at sp
  refine xci sp ?_
  have loop : ∀ z m, m + z = cyl n f i → 1 ≤ m → smA f i (m - 1) = true → xAt (h.1, h.2.1) g_Perm_cycleOf Q 9 [(0, .int (R (nrm n f))), (1, .int (nI i)), (2, .int (nI n)), (3, .int (nI (itr f m i))), (4, .int (nI m))] [] h := by
    intro z
    induction z with
    | zero =>
      intro m hm hm1 hs
      have hm : m = cyl n f i := hm
      subst hm
      rw [if_pos (show sm n f i = true from hs)] at hQ
      rw [c3]
      refine xgoal [(9, [0, 1, 2, 3, 4])] 100 ok_Perm_cycleOf ?_
      refine pk_le i i (fun c => ?_) (fun c => absurd c (by omega))
      exact pk_eq i i (fun c => hQ) (fun c => absurd rfl c)
    | succ z ih =>
      intro m hm hm1 hs
      have hlt := itr_lt hf.1 m i hi
      have hne := c4 m hm1 (by omega)
      refine xgoal [(9, [0, 1, 2, 3, 4])] 100 ok_Perm_cycleOf ?_
      refine pk_le (itr f m i) i (fun c => ?_) (fun c => ?_)
      · have hsm : ¬ sm n f i = true := fun z9 => by
          have := smA_all.mp z9 m hm1 (by omega)
          omega
        rw [if_neg hsm] at hQ
        exact pk_eq (itr f m i) i (fun c => absurd c hne) (fun c => hQ)
      · refine pk_le n m (fun c => absurd c (by omega)) (fun c9 => ?_)
        have sp := sp_Row_entry hb (i := itr f m i) (by omega) h
        rw [nrm_in hlt] at sp
        refine xci sp ?_
        have ih := ih (m + 1) (by omega) (by omega) (by
          show smA f i m = true
          have e : m = (m - 1) + 1 := by omega
          rw [e]
          unfold smA
          rw [hs, ← e]
          simp [c])
        rw [← nI_1 m] at ih
        exact ih
  exact loop (cyl n f i - 1) 1 (by omega) (Nat.le_refl _) rfl
def cycs (n : Nat) (f : Nat → Nat) : Nat := ct (fun i => sm n f i) n
def fixs (n : Nat) (f : Nat → Nat) : Nat := ct (fun i => decide (f i = i)) n
def mxA (n : Nat) (f : Nat → Nat) : Nat → Nat
  | 0 => 0
  | i + 1 => max (mxA n f i) (if sm n f i = true then cyl n f i else 0)
def tyA (n : Nat) (f : Nat → Nat) : Nat → Nat
  | 0 => 0
  | i + 1 => tyA n f i + if sm n f i = true then 2 ^ (3 * (cyl n f i - 1)) else 0
theorem mxA_le {n : Nat} {f : Nat → Nat} (hf : PM n f) : ∀ i, i ≤ n → mxA n f i ≤ n
  | 0, _ => Nat.zero_le _
  | i + 1, h => by
    have := mxA_le hf i (by omega)
    have := (cyl_spec hf (i := i) (by omega)).2.1
    unfold mxA
    split <;> omega
theorem sp_Perm_cycles {n : Nat} {f : Nat → Nat} (hn : n ≤ 7) (hf : PM n f) (h : xHp) : Spec g_Perm_cycles [.int (R (nrm n f)), .int (nI n)] h (some (.int (nI (cycs n f)))) h := by
  refine Spec.of (by decide +kernel) (Nat.le_of_ble_eq_true rfl) ⟨_, rfl⟩ rfl rfl (fun c hc => by cases hc) (fun Q hQ => ?_)
  refine xgoal [(4, [0, 1, 2, 3])] 100 ok_Perm_cycles ?_
  refine up_loop (P := fun i => xAt (h.1, h.2.1) g_Perm_cycles Q 4 [(0, .int (R (nrm n f))), (1, .int (nI n)), (2, .int (nI (ct (fun i => sm n f i) i))), (3, .int (nI i))] [] h) n ?_ (fun i hi ih => ?_) 0 (Nat.zero_le _)
  · refine xgoal [(4, [0, 1, 2, 3])] 100 ok_Perm_cycles ?_
    exact pk_le n n (fun c => hQ) (fun c => absurd c (by omega))
  · refine xgoal [(4, [0, 1, 2, 3])] 100 ok_Perm_cycles ?_
    obtain ⟨c1, c2, -⟩ := cyl_spec hf hi
    refine pk_le n i (fun c => absurd c (by omega)) (fun c => ?_)
    refine xci (sp_Perm_cycleOf hn hf hi h) ?_
    unfold ct at ih
    by_cases hs : sm n f i = true
    · rw [if_pos hs, ← nI_1 i, ← nI_1] at ih
      refine pk_le (cyl n f i) 0 (fun c => absurd c (by omega)) (fun c => ih) (by rw [if_pos hs]) rfl
    · rw [if_neg hs, ← nI_1 i] at ih
      refine pk_le 0 0 (fun c => ih) (fun c => absurd c (by omega)) (by rw [if_neg hs]) rfl
theorem sp_Perm_fixedLines {n : Nat} {f : Nat → Nat} (hn : n ≤ 7) (hf : PM n f) (h : xHp) : Spec g_Perm_fixedLines [.int (R (nrm n f)), .int (nI n)] h (some (.int (nI (fixs n f)))) h := by
  refine Spec.of (by decide +kernel) (Nat.le_of_ble_eq_true rfl) ⟨_, rfl⟩ rfl rfl (fun c hc => by cases hc) (fun Q hQ => ?_)
  refine xgoal [(4, [0, 1, 2, 3])] 100 ok_Perm_fixedLines ?_
  refine up_loop (P := fun i => xAt (h.1, h.2.1) g_Perm_fixedLines Q 4 [(0, .int (R (nrm n f))), (1, .int (nI n)), (2, .int (nI (ct (fun i => decide (f i = i)) i))), (3, .int (nI i))] [] h) n ?_ (fun i hi ih => ?_) 0 (Nat.zero_le _)
  · refine xgoal [(4, [0, 1, 2, 3])] 100 ok_Perm_fixedLines ?_
    exact pk_le n n (fun c => hQ) (fun c => absurd c (by omega))
  · refine xgoal [(4, [0, 1, 2, 3])] 100 ok_Perm_fixedLines ?_
    have hfi := hf.1 i hi
    refine pk_le n i (fun c => absurd c (by omega)) (fun c => ?_)
    have sp := sp_Row_entry (nrm_b8 (fun j hj => by have := hf.1 j hj; omega) : b8 (nrm n f)) (i := i) (by omega) h
    rw [nrm_in hi] at sp
    refine xci sp ?_
    unfold ct at ih
    refine pk_eq (f i) i (fun c => ?_) (fun c => ?_)
    · rw [if_pos (by simp [c]), ← nI_1 i, ← nI_1] at ih
      exact ih
    · rw [if_neg (by simp [c]), ← nI_1 i] at ih
      exact ih
theorem sp_Perm_longestCycle {n : Nat} {f : Nat → Nat} (hn : n ≤ 7) (hf : PM n f) (h : xHp) : Spec g_Perm_longestCycle [.int (R (nrm n f)), .int (nI n)] h (some (.int (nI (mxA n f n)))) h := by
  refine Spec.of (by decide +kernel) (Nat.le_of_ble_eq_true rfl) ⟨_, rfl⟩ rfl rfl (fun c hc => by cases hc) (fun Q hQ => ?_)
  refine xgoal [(4, [0, 1, 2, 3])] 100 ok_Perm_longestCycle ?_
  refine up_loop (P := fun i => xAt (h.1, h.2.1) g_Perm_longestCycle Q 4 [(0, .int (R (nrm n f))), (1, .int (nI n)), (2, .int (nI (mxA n f i))), (3, .int (nI i))] [] h) n ?_ (fun i hi ih => ?_) 0 (Nat.zero_le _)
  · refine xgoal [(4, [0, 1, 2, 3])] 100 ok_Perm_longestCycle ?_
    exact pk_le n n (fun c => hQ) (fun c => absurd c (by omega))
  · refine xgoal [(4, [0, 1, 2, 3])] 100 ok_Perm_longestCycle ?_
    have h1 := mxA_le hf i (by omega)
    obtain ⟨-, h2, -⟩ := cyl_spec hf hi
    refine pk_le n i (fun c => absurd c (by omega)) (fun c => ?_)
    refine xci (sp_Perm_cycleOf hn hf hi h) ?_
    unfold mxA at ih
    rw [← nI_max (by omega) (by split <;> omega), ← nI_1 i] at ih
    exact ih
theorem sp_Perm_cycleType {n : Nat} {f : Nat → Nat} (hn : n ≤ 7) (hf : PM n f) (h : xHp) : Spec g_Perm_cycleType [.int (R (nrm n f)), .int (nI n)] h (some (.int (nI (tyA n f n)))) h := by
  refine Spec.of (by decide +kernel) (Nat.le_of_ble_eq_true rfl) ⟨_, rfl⟩ rfl rfl (fun c hc => by cases hc) (fun Q hQ => ?_)
  refine xgoal [(4, [0, 1, 2, 3])] 100 ok_Perm_cycleType ?_
  refine up_loop (P := fun i => xAt (h.1, h.2.1) g_Perm_cycleType Q 4 [(0, .int (R (nrm n f))), (1, .int (nI n)), (2, .int (nI (tyA n f i))), (3, .int (nI i))] [] h) n ?_ (fun i hi ih => ?_) 0 (Nat.zero_le _)
  · refine xgoal [(4, [0, 1, 2, 3])] 100 ok_Perm_cycleType ?_
    exact pk_le n n (fun c => hQ) (fun c => absurd c (by omega))
  · refine xgoal [(4, [0, 1, 2, 3])] 100 ok_Perm_cycleType ?_
    obtain ⟨c1, c2, -⟩ := cyl_spec hf hi
    refine pk_le n i (fun c => absurd c (by omega)) (fun c => ?_)
    refine xci (sp_Perm_cycleOf hn hf hi h) ?_
    unfold tyA at ih
    by_cases hs : sm n f i = true
    · rw [if_pos hs, ← nI_1 i, ← nI_add] at ih
      refine pk_le (cyl n f i) 0 (fun c => absurd c (by omega)) (fun c => ?_) (by rw [if_pos hs]) rfl
      have e : nI 1 <<< ((nI 3 * (nI (if sm n f i = true then cyl n f i else 0) - nI 1)) &&& 31) = nI (2 ^ (3 * (cyl n f i - 1))) := by
        rw [if_pos hs, pk_sub c1, n_mul, n_shl _ _ (by omega), Nat.one_mul]
      rw [← e] at ih
      exact ih
    · rw [if_neg hs, Nat.add_zero, ← nI_1 i] at ih
      refine pk_le 0 0 (fun c => ih) (fun c => absurd c (by omega)) (by rw [if_neg hs]) rfl
/-- the properties -/
def prp (n : Nat) (f : Nat → Nat) (what : Nat) : Nat := match what with
  | 0 => rank n f
  | 1 => ord n f
  | 2 => cycs n f
  | 3 => fixs n f
  | 4 => mxA n f n
  | 5 => (n - cycs n f) % 2
  | _ => tyA n f n
theorem sp_Perm_property {n what : Nat} {f : Nat → Nat} (hn : n ≤ 7) (hf : PM n f) (hw : what < 7) (h : xHp) : Spec g_Perm_property [.int (R (nrm n f)), .int (nI what), .int (nI n)] h (some (.int (nI (prp n f what)))) h := by
  refine Spec.of (by decide +kernel) (Nat.le_of_ble_eq_true rfl) ⟨_, rfl⟩ rfl rfl (fun c hc => by cases hc) (fun Q hQ => ?_)
  refine xgoal [] 100 ok_Perm_property ?_
  refine pk_eq what 0 (fun c => by subst c; exact xci (sp_Perm_number hn hf h) hQ) (fun c0 => ?_)
  refine pk_eq what 1 (fun c => by subst c; exact xci (sp_Perm_order hn hf h) hQ) (fun c1 => ?_)
  refine pk_eq what 2 (fun c => by subst c; exact xci (sp_Perm_cycles hn hf h) hQ) (fun c2 => ?_)
  refine pk_eq what 3 (fun c => by subst c; exact xci (sp_Perm_fixedLines hn hf h) hQ) (fun c3 => ?_)
  refine pk_eq what 4 (fun c => by subst c; exact xci (sp_Perm_longestCycle hn hf h) hQ) (fun c4 => ?_)
  refine pk_eq what 5 (fun c => ?_) (fun c5 => ?_)
  · subst c
    have e : (nI n - nI (cycs n f)) &&& nI 1 = nI ((n - cycs n f) % 2) := by
      rw [pk_sub (show cycs n f ≤ n from ct_le _ n), n_and, show (1 : Nat) = 2 ^ 1 - 1 from rfl, Nat.and_two_pow_sub_one_eq_mod]
    have hQ : Q (some (.int (nI ((n - cycs n f) % 2)))) h := hQ
    rw [← e] at hQ
    exact xci (sp_Perm_cycles hn hf h) hQ
  · have : what = 6 := by omega
    subst this
    exact xci (sp_Perm_cycleType hn hf h) hQ
