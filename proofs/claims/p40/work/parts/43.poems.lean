/-! POEMS that are spoiled and mended -/
/-- no place is locked -/
def nol (P : Pv) : Prop := ∀ t, t < pc P → plk P t = 0
theorem nol_okx {n : Nat} {f x : Nat → Nat} {P : Pv} (h : nol P) : okx n f P x := fun t ht j _ hb => by
  rw [h t ht, Nat.zero_div] at hb
  cases hb
theorem cst_n0 {n : Nat} {f : Nat → Nat} {P : Pv} (hn : n ≤ 7) (hk : pok n P) (hf : PM n f) (h : nol P) : cst n f P ≠ 0 := fun z => by
  have := cst_up (x := fun i => i) hn hk hf (PM_id n) (nol_okx h)
  omega
/-- the cost, as a number -/
def cn (n : Nat) (f : Nat → Nat) (P : Pv) : Nat := n * pc P + 1 - cst n f P
theorem cn_I {n : Nat} {f : Nat → Nat} {P : Pv} (h : cst n f P ≠ 0) : cstI n f P = nI (cn n f P) := if_neg h
theorem cn_df {n : Nat} {f : Nat → Nat} {P : Pv} (hn : n ≤ 7) (hk : pok n P) (hf : PM n f) (h : cst n f P ≠ 0) : cn n f P = df2 n f P (fro n f P) := by
  obtain ⟨-, -, h3⟩ := cst_at hn hk hf h
  have h4 := kp_df (n := n) (f := f) (p := P) (x := fro n f P)
  unfold cn
  omega
theorem cn_le {n : Nat} {f x : Nat → Nat} {P : Pv} (hn : n ≤ 7) (hk : pok n P) (hf : PM n f) (hx : PM n x) (ha : okx n f P x) : cst n f P ≠ 0 ∧ cn n f P ≤ df2 n f P x := by
  have h1 := cst_up hn hk hf hx ha
  have h4 := kp_df (n := n) (f := f) (p := P) (x := x)
  unfold cn
  exact ⟨by omega, by omega⟩
theorem cn_b {n : Nat} {f : Nat → Nat} {P : Pv} (hn : n ≤ 7) (hk : pok n P) (h : cst n f P ≠ 0) : cn n f P ≤ 56 := by
  have h8 := hk.1
  have : n * pc P ≤ 7 * 8 := Nat.mul_le_mul hn h8
  unfold cn
  omega
theorem cn_0 {n : Nat} {f x : Nat → Nat} {P : Pv} (hn : n ≤ 7) (hk : pok n P) (hf : PM n f) (hx : PM n x) (h : ∀ t, t < pc P → ∀ j, j < n → pst P t j = x (itr f t j)) : cst n f P ≠ 0 ∧ cn n f P = 0 := by
  obtain ⟨h1, h2⟩ := cn_le hn hk hf hx (fun t ht j hj _ => h t ht j hj)
  rw [df_0.mpr h] at h2
  exact ⟨h1, by omega⟩
theorem cn_flw {n : Nat} {f : Nat → Nat} {P : Pv} (hn : n ≤ 7) (hk : pok n P) (hf : PM n f) (h1 : 1 ≤ pc P) (h : nol P) : cn n f P = 0 ↔ flw n P f = true := by
  rw [flw_ex hk hf h1]
  have h0 := cst_n0 hn hk hf h
  constructor
  · intro z
    rw [cn_df hn hk hf h0] at z
    exact ⟨fro n f P, (cst_at hn hk hf h0).1, df_0.mp z⟩
  · rintro ⟨x, hx, z⟩
    exact (cn_0 hn hk hf hx z).2
theorem fl_1 {n : Nat} {f : Nat → Nat} {P : Pv} (h : flw n P f = true) : flI n P f = 1 := if_pos h
theorem fl_0 {n : Nat} {f : Nat → Nat} {P : Pv} (h : ¬ flw n P f = true) : flI n P f = 0 := if_neg h
/-! the same permutation, the same poem -/
theorem cst_cg1 {n : Nat} {f g : Nat → Nat} {P P' : Pv} (hn : n ≤ 7) (hk : pok n P) (hk' : pok n P') (hf : PM n f) (hg : PM n g) (h : ∀ i, i < n → f i = g i) (hc : pc P' = pc P) (hs : ∀ t, pst P' t = pst P t) (hl : ∀ x, okx n f P x → okx n g P' x) : cst n f P ≤ cst n g P' := by
  by_cases h0 : cst n f P = 0
  · omega
  · obtain ⟨h1, h2, h3⟩ := cst_at hn hk hf h0
    have h4 := cst_up hn hk' hg h1 (hl _ h2)
    have e : kp2 n g P' (fro n f P) = kp2 n f P (fro n f P) := by
      unfold kp2
      rw [hc]
      refine sumN_congr (fun t ht => ct_congr (fun j hj => ?_))
      rw [hs t, itr_congr hf.1 h t j hj]
    omega
theorem cst_cg {n : Nat} {f g : Nat → Nat} {P : Pv} (hn : n ≤ 7) (hk : pok n P) (hf : PM n f) (hg : PM n g) (h : ∀ i, i < n → f i = g i) : cst n f P = cst n g P :=
  Nat.le_antisymm (cst_cg1 hn hk hk hf hg h rfl (fun _ => rfl) (fun x hx t ht j hj hb => by rw [← itr_congr hf.1 h t j hj]; exact hx t ht j hj hb))
    (cst_cg1 hn hk hk hg hf (fun i hi => (h i hi).symm) rfl (fun _ => rfl) (fun x hx t ht j hj hb => by rw [itr_congr hf.1 h t j hj]; exact hx t ht j hj hb))
theorem cst_nl {n : Nat} {f : Nat → Nat} {P P' : Pv} (hn : n ≤ 7) (hk : pok n P) (hk' : pok n P') (hf : PM n f) (hc : pc P' = pc P) (hs : ∀ t, pst P' t = pst P t) (h : nol P) (h' : nol P') : cst n f P' = cst n f P :=
  Nat.le_antisymm (cst_cg1 hn hk' hk hf hf (fun _ _ => rfl) hc.symm (fun t => (hs t).symm) (fun _ _ => nol_okx h)) (cst_cg1 hn hk hk' hf hf (fun _ _ => rfl) hc hs (fun _ _ => nol_okx h'))
/-! stanzas that are added -/
def bld (n : Nat) (f : Nat → Nat) (m : Nat) (P : Pv) : Prop := pc P = m ∧ (∀ t, t < m → ∀ j, pst P t j = itr f t j) ∧ nol P
theorem bld_s {n m : Nat} {f : Nat → Nat} {P : Pv} (h : bld n f m P) : bld n f (m + 1) (padd P (fun i => if pc P = 0 then i else pst P (pc P - 1) (f i))) := by
  obtain ⟨h1, h2, h3⟩ := h
  refine ⟨by show pc P + 1 = m + 1; omega, fun t ht j => ?_, fun t ht => ?_⟩
  · show (if t = pc P then (fun i => if pc P = 0 then i else pst P (pc P - 1) (f i)) else pst P t) j = itr f t j
    by_cases c : t = pc P
    · rw [if_pos c]
      show (if pc P = 0 then j else pst P (pc P - 1) (f j)) = itr f t j
      by_cases d : pc P = 0
      · rw [if_pos d, c, d]; rfl
      · rw [if_neg d, h2 _ (by omega), itr_s1, c, show pc P - 1 + 1 = pc P by omega]
    · rw [if_neg c]
      exact h2 t (by omega) j
  · show (if t = pc P then 0 else plk P t) = 0
    have ht : t < pc P + 1 := ht
    by_cases c : t = pc P
    · rw [if_pos c]
    · rw [if_neg c]; exact h3 t (by omega)
theorem bld_id {n m : Nat} {f : Nat → Nat} {P : Pv} (h : bld n f m P) : ∀ t, t < pc P → ∀ j, j < n → pst P t j = (fun i => i) (itr f t j) := fun t ht j _ => h.2.1 t (by rw [← h.1]; exact ht) j
theorem bld_prop {n m t : Nat} {f : Nat → Nat} {P : Pv} (hf : PM n f) (h : bld n f m P) (ht : t < m) : prop n (pst P t) = true := by
  have e : pst P t = itr f t := funext (h.2.1 t ht)
  rw [e]
  exact (prop_PM (itr_PM hf t).1).mpr (itr_PM hf t)
theorem bld_tb {n m : Nat} {f : Nat → Nat} {P : Pv} (hk : pok n P) (hf : PM n f) (h : bld n f m P) (hm : 1 < m) : (tbh n P 0 = true ∧ flw n P (tbp n P 0) = true) ∧ rank n (tbp n P 0) = rank n f := by
  have h1 : tbh n P 0 = true := by
    unfold tbh
    rw [bld_prop hf h (show 0 < m by omega), bld_prop hf h (show 0 + 1 < m by omega), decide_eq_true (show 0 + 1 < pc P by rw [h.1]; omega)]
    rfl
  have ht : ∀ i, i < n → tbp n P 0 i = f i := fun i hi => by
    show inv n (pst P 0) (pst P (0 + 1) i) = f i
    have e0 : pst P 0 = itr f 0 := funext (h.2.1 0 (by omega))
    have e1 : pst P (0 + 1) = itr f 1 := funext (h.2.1 1 hm)
    rw [e0, e1]
    exact inv_get (itr_PM hf 0) (hf.1 i hi)
  have hp := (tbp_PM hk h1).2.2
  refine ⟨⟨h1, (flw_ex hk hp (by rw [h.1]; omega)).mpr ⟨fun i => i, PM_id n, fun t ht' j hj => ?_⟩⟩, rank_congr ht⟩
  rw [h.2.1 t (by rw [← h.1]; exact ht') j]
  exact (itr_congr hp.1 ht t j hj).symm
/-! places that are spoiled -/
theorem ct_1 {p q : Nat → Bool} {i : Nat} : ∀ {n : Nat}, (∀ j, j < n → p j = true → q j = true ∨ j = i) → ct p n ≤ ct q n + if i < n then 1 else 0
  | 0, _ => Nat.zero_le _
  | n + 1, h => by
    have ih := ct_1 (n := n) (fun j hj => h j (by omega))
    have h1 := h n (by omega)
    have e1 : (if i < n then 1 else 0) ≤ (if i < n + 1 then 1 else 0) := by
      by_cases e : i < n
      · rw [if_pos e, if_pos (show i < n + 1 by omega)]; exact Nat.le_refl _
      · rw [if_neg e]; exact Nat.zero_le _
    unfold ct
    by_cases c : p n = true
    · rw [if_pos c]
      rcases h1 c with d | d
      · rw [if_pos d]; omega
      · rw [if_neg (show ¬ i < n by omega)] at ih
        rw [if_pos (show i < n + 1 by omega)]
        omega
    · rw [if_neg c]
      omega
theorem sumN_1 {a b : Nat → Nat} {s : Nat} : ∀ {m : Nat}, (∀ t, t < m → t ≠ s → a t = b t) → a s ≤ b s + 1 → sumN a m ≤ sumN b m + if s < m then 1 else 0
  | 0, _, _ => Nat.zero_le _
  | m + 1, h, hs => by
    have ih := sumN_1 (m := m) (fun t ht => h t (by omega)) hs
    have e1 : (if s < m then 1 else 0) ≤ (if s < m + 1 then 1 else 0) := by
      by_cases e : s < m
      · rw [if_pos e, if_pos (show s < m + 1 by omega)]; exact Nat.le_refl _
      · rw [if_neg e]; exact Nat.zero_le _
    unfold sumN
    by_cases c : m = s
    · subst c
      rw [if_neg (Nat.lt_irrefl _)] at ih
      rw [if_pos (show m < m + 1 by omega)]
      omega
    · have := h m (by omega) c
      omega
theorem df_put {n s i x : Nat} {f y : Nat → Nat} {P : Pv} : df2 n f (pput P s i x) y ≤ df2 n f P y + 1 := by
  have h := sumN_1 (s := s) (m := pc P) (a := fun t => ct (fun j => !decide (pst (pput P s i x) t j = y (itr f t j))) n) (b := fun t => ct (fun j => !decide (pst P t j = y (itr f t j))) n) (fun t _ hts => ct_congr (fun j _ => by
    show (!decide ((if t = s then upn (pst P s) i x else pst P t) j = y (itr f t j))) = _
    rw [if_neg hts])) (by
    have h2 := ct_1 (i := i) (n := n) (p := fun j => !decide (pst (pput P s i x) s j = y (itr f s j))) (q := fun j => !decide (pst P s j = y (itr f s j))) (fun j _ hp => by
      by_cases c : j = i
      · exact Or.inr c
      · refine Or.inl ?_
        have e : pst (pput P s i x) s j = pst P s j := by
          show (if s = s then upn (pst P s) i x else pst P s) j = pst P s j
          rw [if_pos rfl]
          exact if_neg c
        have hp : (!decide (pst (pput P s i x) s j = y (itr f s j))) = true := hp
        rw [e] at hp
        exact hp)
    split at h2 <;> omega)
  have h : df2 n f (pput P s i x) y ≤ df2 n f P y + if s < pc P then 1 else 0 := h
  split at h <;> omega
/-! a place that is locked -/
theorem shift_PM {n d : Nat} : PM n (fun j => (j + d) % n) := ⟨fun i hi => Nat.mod_lt _ (by omega), fun i j hi hj e => by
  have e : (i + d) % n = (j + d) % n := e
  have h1 := Nat.div_add_mod (i + d) n
  have h2 := Nat.div_add_mod (j + d) n
  rw [e] at h1
  rcases Nat.lt_trichotomy ((i + d) / n) ((j + d) / n) with c | c | c
  · have : n * ((i + d) / n + 1) ≤ n * ((j + d) / n) := Nat.mul_le_mul_left n c
    rw [Nat.mul_add, Nat.mul_one] at this
    omega
  · rw [c] at h1; omega
  · have : n * ((j + d) / n + 1) ≤ n * ((i + d) / n) := Nat.mul_le_mul_left n c
    rw [Nat.mul_add, Nat.mul_one] at this
    omega⟩
theorem PM_to {n l v : Nat} (hl : l < n) (hv : v < n) : ∃ x, PM n x ∧ x l = v := ⟨_, shift_PM (d := n - l + v), by
  show (l + (n - l + v)) % n = v
  rw [show l + (n - l + v) = v + n by omega, Nat.add_mod_right]
  exact Nat.mod_eq_of_lt hv⟩
theorem lk_1 : ∀ i, i < 7 → ∀ j, j < 7 → ((0 ||| 2 ^ i) / 2 ^ j % 2 = 1 → j = i) ∧ (0 ||| 2 ^ i) / 2 ^ i % 2 = 1 ∧ (0 ||| 2 ^ i) &&& (2 ^ i ^^^ 4294967295) = 0 := by decide +kernel
/-- one place is locked -/
abbrev lk1 (P : Pv) (s i : Nat) : Pv := plok P s (plk P s ||| 2 ^ i)
theorem lk1_okx {n s i : Nat} {f x : Nat → Nat} {P : Pv} (hn : n ≤ 7) (h : nol P) (hs : s < pc P) (hi : i < n) : okx n f (lk1 P s i) x ↔ pst P s i = x (itr f s i) := by
  have e : ∀ t, plk (lk1 P s i) t = if t = s then 0 ||| 2 ^ i else plk P t := fun t => by
    show upn (plk P) s (plk P s ||| 2 ^ i) t = _
    unfold upn
    rw [h s hs]
  constructor
  · intro z
    exact z s hs i hi (by rw [e, if_pos rfl]; exact (lk_1 i (by omega) i (by omega)).2.1)
  · intro z t ht j hj hb
    rw [e] at hb
    by_cases c : t = s
    · rw [if_pos c] at hb
      have := (lk_1 i (by omega) j (by omega)).1 hb
      rw [c, this]
      exact z
    · have ht : t < pc P := ht
      rw [if_neg c, h t ht, Nat.zero_div] at hb
      cases hb
theorem lk1_c {n s i : Nat} {f : Nat → Nat} {P : Pv} (hn : n ≤ 7) (hk : pok n P) (hk1 : pok n (lk1 P s i)) (hf : PM n f) (h : nol P) (hs : s < pc P) (hi : i < n) : cst n f (lk1 P s i) ≠ 0 ∧ cn n f P ≤ cn n f (lk1 P s i) := by
  obtain ⟨x, hx, e⟩ := PM_to (itr_lt hf.1 s i hi) (hk.2.1 s hs i hi)
  have h1 := (cn_le hn hk1 hf hx ((lk1_okx hn h hs hi).mpr e.symm)).1
  refine ⟨h1, ?_⟩
  have h2 := cst_cg1 hn hk1 hk hf hf (fun _ _ => rfl) rfl (fun _ => rfl) (fun _ _ => nol_okx h)
  have h3 : pc (lk1 P s i) = pc P := rfl
  unfold cn
  rw [h3]
  omega
/-- and is free again -/
theorem lk0_nol {s i : Nat} {P : Pv} (hi : i < 7) (h : nol P) (hs : s < pc P) : nol (plok (lk1 P s i) s (plk (lk1 P s i) s &&& (2 ^ i ^^^ 4294967295))) := fun t ht => by
  show (if t = s then plk (lk1 P s i) s &&& (2 ^ i ^^^ 4294967295) else plk (lk1 P s i) t) = 0
  have e : ∀ t, plk (lk1 P s i) t = if t = s then 0 ||| 2 ^ i else plk P t := fun t => by
    show upn (plk P) s (plk P s ||| 2 ^ i) t = _
    unfold upn
    rw [h s hs]
  by_cases c : t = s
  · rw [if_pos c, e, if_pos rfl]
    exact (lk_1 i hi i hi).2.2
  · rw [if_neg c, e, if_neg c]
    exact h t ht
/-! the best permutation -/
theorem bst_ok {n : Nat} {P : Pv} (hn : n ≤ 7) (hk : pok n P) (h : nol P) : (bst (mk n P) (fct n)).1 ≠ 0 ∧ (bst (mk n P) (fct n)).2 < fct n ∧ (∀ g, PM n g → cn n (unr n (bst (mk n P) (fct n)).2) P ≤ cn n g P) ∧
    ∀ g, PM n g → ¬ cn n (unr n (bst (mk n P) (fct n)).2) P < cn n g P → rank n (unr n (bst (mk n P) (fct n)).2) ≤ rank n g := by
  have hmk : ∀ g, PM n g → mk n P (rank n g) = cst n g P := fun g hg => cst_cg hn hk (unr_PM n _) hg (fun i hi => unr_rank hg i hi)
  have hne : (bst (mk n P) (fct n)).1 ≠ 0 := fun z => by
    have h1 := bst_max (mk n P) (fct n) (rank n (fun i => i)) (rank_lt n _)
    rw [hmk _ (PM_id n)] at h1
    exact cst_n0 hn hk (PM_id n) h (by omega)
  obtain ⟨h1, h2⟩ := bst_le (mk n P) (fct n) hne
  have h2 : cst n (unr n (bst (mk n P) (fct n)).2) P = (bst (mk n P) (fct n)).1 := h2
  refine ⟨hne, h1, fun g hg => ?_, fun g hg z => ?_⟩
  · have h3 := bst_max (mk n P) (fct n) (rank n g) (rank_lt n _)
    rw [hmk g hg] at h3
    unfold cn
    omega
  · rw [rank_unr h1]
    refine Nat.le_of_not_lt fun y => ?_
    have h3 := bst_1st (mk n P) (fct n) (rank n g) y
    rw [hmk g hg] at h3
    have h4 := (cst_le hn hk (unr_PM n (bst (mk n P) (fct n)).2)).1
    refine z ?_
    unfold cn
    omega
