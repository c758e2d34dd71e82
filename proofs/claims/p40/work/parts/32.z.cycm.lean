/-! CYCLES: periods, orders, parities -/
theorem per_mul {f : Nat → Nat} {c i : Nat} (h : itr f c i = i) : ∀ q, itr f (q * c) i = i
  | 0 => by rw [Nat.zero_mul]; rfl
  | q + 1 => by rw [Nat.add_mul, Nat.one_mul, itr_add, h]; exact per_mul h q
theorem per_mod {f : Nat → Nat} {c i : Nat} (h : itr f c i = i) (k : Nat) : itr f k i = itr f (k % c) i := by
  conv => lhs; rw [← Nat.mod_add_div k c, itr_add, Nat.mul_comm, per_mul h]
theorem itr_cyl {n i m : Nat} {f : Nat → Nat} (hf : PM n f) (hi : i < n) : itr f m i = i ↔ m % cyl n f i = 0 := by
  obtain ⟨c1, c2, c3, c4⟩ := cyl_spec hf hi
  rw [per_mod c3 m]
  have hlt : m % cyl n f i < cyl n f i := Nat.mod_lt _ (by omega)
  constructor
  · intro h
    refine Classical.byContradiction fun hne => ?_
    exact c4 _ (by omega) hlt h
  · intro h; rw [h]; rfl
theorem cyl_itr {n i t : Nat} {f : Nat → Nat} (hf : PM n f) (hi : i < n) : cyl n f (itr f t i) = cyl n f i := by
  unfold cyl
  refine sr_congr (fun m _ _ => decide_eq_decide.mpr ?_)
  rw [← itr_add, Nat.add_comm m t, itr_add]
  exact ⟨fun h => itr_inj hf t _ _ (itr_lt hf.1 m i hi) hi h, fun h => by rw [h]⟩
theorem ct_mono {p : Nat → Bool} {a : Nat} : ∀ {b : Nat}, a ≤ b → ct p a ≤ ct p b
  | 0, h => by rw [Nat.le_zero.mp h]; exact Nat.le_refl _
  | b + 1, h => by
    by_cases e : a = b + 1
    · rw [e]; exact Nat.le_refl _
    · have := ct_mono (p := p) (a := a) (b := b) (by omega)
      show ct p a ≤ ct p b + if p b = true then 1 else 0
      omega
theorem ct_strict {p : Nat → Bool} {a b : Nat} (h : a < b) (hp : p a = true) : ct p a < ct p b := by
  have h1 := ct_mono (p := p) (show a + 1 ≤ b by omega)
  have h2 : ct p (a + 1) = ct p a + 1 := by
    show ct p a + (if p a = true then 1 else 0) = ct p a + 1
    rw [if_pos hp]
  omega
/-- at least c of them, if there are c different ones -/
theorem ct_inj {n c : Nat} {p : Nat → Bool} {x : Nat → Nat} (hx : ∀ t, t < c → x t < n ∧ p (x t) = true) (hi : ∀ s t, s < c → t < c → x s = x t → s = t) : c ≤ ct p n := by
  have := ct_pig (n := c) (v := ct p n) (f := fun t => ct p (x t)) (p := fun _ => true) (fun s t hs ht _ _ e => by
    have e : ct p (x s) = ct p (x t) := e
    rcases Nat.lt_trichotomy (x s) (x t) with g | g | g
    · have := ct_strict g (hx s hs).2; omega
    · exact hi s t hs ht g
    · have := ct_strict g (hx t ht).2; omega) (fun t ht _ => ct_strict (hx t ht).1 (hx t ht).2)
  rw [ct_true] at this
  exact this
theorem cnt_ge {n i : Nat} {f : Nat → Nat} (hf : PM n f) (hi : i < n) : cyl n f i ≤ ct (fun j => decide (cyl n f j = cyl n f i)) n := by
  obtain ⟨c1, c2, c3, c4⟩ := cyl_spec hf hi
  refine ct_inj (x := fun t => itr f t i) (fun t ht => ⟨itr_lt hf.1 t i hi, decide_eq_true (cyl_itr hf hi)⟩) (fun s t hs ht e => ?_)
  have key : ∀ a b, a < b → b < cyl n f i → itr f a i = itr f b i → False := by
    intro a b h1 h2 e
    have e2 : itr f b i = itr f a (itr f (b - a) i) := by rw [← itr_add, show a + (b - a) = b by omega]
    rw [e2] at e
    exact c4 (b - a) (by omega) (by omega) (itr_inj hf a _ _ hi (itr_lt hf.1 _ i hi) e).symm
  rcases Nat.lt_trichotomy s t with g | g | g
  · exact (key s t g ht e).elim
  · exact g
  · exact (key t s g hs e.symm).elim
theorem ct_le_succ {n : Nat} (g : Nat → Nat) (k : Nat) : ct (fun j => decide (g j ≤ k + 1)) n = ct (fun j => decide (g j ≤ k)) n + ct (fun j => decide (g j = k + 1)) n := by
  rw [ct_split _ (fun j => decide (g j ≤ k))]
  congr 1
  · refine ct_congr (fun j _ => ?_)
    by_cases h : g j ≤ k
    · have : g j ≤ k + 1 := by omega
      simp [h, this]
    · simp [h]
  · refine ct_congr (fun j _ => ?_)
    by_cases h : g j ≤ k
    · have h2 : ¬ g j = k + 1 := by omega
      simp [h, h2]
    · by_cases h2 : g j = k + 1
      · have : g j ≤ k + 1 := by omega
        simp [h, h2]
      · have : ¬ g j ≤ k + 1 := by omega
        simp [h, h2, this]
/-- some number up to 12 is a multiple of the lengths of all cycles -/
theorem ord_ex {n : Nat} {f : Nat → Nat} (hn : n ≤ 7) (hf : PM n f) : ∃ m, 1 ≤ m ∧ m ≤ 12 ∧ ∀ i, i < n → m % cyl n f i = 0 := by
  have s1 : ct (fun j => decide (cyl n f j ≤ 2)) n = ct (fun j => decide (cyl n f j ≤ 1)) n + ct (fun j => decide (cyl n f j = 2)) n := ct_le_succ (cyl n f) 1
  have s2 : ct (fun j => decide (cyl n f j ≤ 3)) n = ct (fun j => decide (cyl n f j ≤ 2)) n + ct (fun j => decide (cyl n f j = 3)) n := ct_le_succ (cyl n f) 2
  have s3 : ct (fun j => decide (cyl n f j ≤ 4)) n = ct (fun j => decide (cyl n f j ≤ 3)) n + ct (fun j => decide (cyl n f j = 4)) n := ct_le_succ (cyl n f) 3
  have s4 : ct (fun j => decide (cyl n f j ≤ 5)) n = ct (fun j => decide (cyl n f j ≤ 4)) n + ct (fun j => decide (cyl n f j = 5)) n := ct_le_succ (cyl n f) 4
  have s5 : ct (fun j => decide (cyl n f j ≤ 6)) n = ct (fun j => decide (cyl n f j ≤ 5)) n + ct (fun j => decide (cyl n f j = 6)) n := ct_le_succ (cyl n f) 5
  have s6 : ct (fun j => decide (cyl n f j ≤ 7)) n = ct (fun j => decide (cyl n f j ≤ 6)) n + ct (fun j => decide (cyl n f j = 7)) n := ct_le_succ (cyl n f) 6
  have s7 := ct_le (fun j => decide (cyl n f j ≤ 7)) n
  have hc : ∀ i, i < n → ∀ c, cyl n f i = c → c ≤ ct (fun j => decide (cyl n f j = c)) n := fun i hi c e => by
    subst e; exact cnt_ge hf hi
  have hr : ∀ i, i < n → 1 ≤ cyl n f i ∧ cyl n f i ≤ 7 := fun i hi => by
    obtain ⟨c1, c2, -⟩ := cyl_spec hf hi; omega
  have h2 : ∀ i, i < n → cyl n f i = 2 → 2 ≤ ct (fun j => decide (cyl n f j = 2)) n := fun i hi => hc i hi 2
  have h3 : ∀ i, i < n → cyl n f i = 3 → 3 ≤ ct (fun j => decide (cyl n f j = 3)) n := fun i hi => hc i hi 3
  have h4 : ∀ i, i < n → cyl n f i = 4 → 4 ≤ ct (fun j => decide (cyl n f j = 4)) n := fun i hi => hc i hi 4
  have h5 : ∀ i, i < n → cyl n f i = 5 → 5 ≤ ct (fun j => decide (cyl n f j = 5)) n := fun i hi => hc i hi 5
  have h6 : ∀ i, i < n → cyl n f i = 6 → 6 ≤ ct (fun j => decide (cyl n f j = 6)) n := fun i hi => hc i hi 6
  have h7 : ∀ i, i < n → cyl n f i = 7 → 7 ≤ ct (fun j => decide (cyl n f j = 7)) n := fun i hi => hc i hi 7
  generalize ct (fun j => decide (cyl n f j = 2)) n = A2 at *
  generalize ct (fun j => decide (cyl n f j = 3)) n = A3 at *
  generalize ct (fun j => decide (cyl n f j = 4)) n = A4 at *
  generalize ct (fun j => decide (cyl n f j = 5)) n = A5 at *
  generalize ct (fun j => decide (cyl n f j = 6)) n = A6 at *
  generalize ct (fun j => decide (cyl n f j = 7)) n = A7 at *
  by_cases e7 : 7 ≤ A7
  · refine ⟨7, by omega, by omega, fun i hi => ?_⟩
    have := hr i hi; have := h2 i hi; have := h3 i hi; have := h4 i hi; have := h5 i hi; have := h6 i hi
    have : cyl n f i = 1 ∨ cyl n f i = 7 := by omega
    rcases this with e | e <;> rw [e]
  by_cases e6 : 6 ≤ A6
  · refine ⟨6, by omega, by omega, fun i hi => ?_⟩
    have := hr i hi; have := h2 i hi; have := h3 i hi; have := h4 i hi; have := h5 i hi; have := h7 i hi
    have : cyl n f i = 1 ∨ cyl n f i = 6 := by omega
    rcases this with e | e <;> rw [e]
  by_cases e5 : 5 ≤ A5
  · refine ⟨10, by omega, by omega, fun i hi => ?_⟩
    have := hr i hi; have := h3 i hi; have := h4 i hi; have := h6 i hi; have := h7 i hi
    have : cyl n f i = 1 ∨ cyl n f i = 2 ∨ cyl n f i = 5 := by omega
    rcases this with e | e | e <;> rw [e]
  · refine ⟨12, by omega, by omega, fun i hi => ?_⟩
    have := hr i hi; have := h5 i hi; have := h6 i hi; have := h7 i hi
    have : cyl n f i = 1 ∨ cyl n f i = 2 ∨ cyl n f i = 3 ∨ cyl n f i = 4 := by omega
    rcases this with e | e | e | e <;> rw [e]
theorem idb_iff {n m : Nat} {f : Nat → Nat} (hf : PM n f) : idb n f m = true ↔ ∀ i, i < n → m % cyl n f i = 0 := by
  unfold idb
  rw [decide_eq_true_eq]
  exact ⟨fun h i hi => (itr_cyl hf hi).mp (h i hi), fun h i hi => (itr_cyl hf hi).mpr (h i hi)⟩
theorem ord_ok {n : Nat} {f : Nat → Nat} (hn : n ≤ 7) (hf : PM n f) : idb n f (ord n f) = true := by
  obtain ⟨m, h1, h2, h3⟩ := ord_ex hn hf
  have hm := (idb_iff hf).mpr h3
  obtain ⟨o1, o2⟩ := ord_le n f
  by_cases c : ord n f < 12
  · exact sr_yes (idb n f) 11 1 (by unfold ord at c; omega)
  · have e : ord n f = 12 := by omega
    have : m = 12 := by
      refine Classical.byContradiction fun z => ?_
      have := sr_no (idb n f) 11 1 m h1 (by have e : sr (idb n f) 11 1 = 12 := e; omega)
      rw [hm] at this; cases this
    rw [e, ← this]; exact hm
theorem ord_no {n m : Nat} {f : Nat → Nat} (h1 : 1 ≤ m) (h2 : m < ord n f) : idb n f m = false := sr_no (idb n f) 11 1 m h1 h2
theorem itr_ord {n i : Nat} {f : Nat → Nat} (hn : n ≤ 7) (hf : PM n f) (hi : i < n) : itr f (ord n f) i = i := of_decide_eq_true (ord_ok hn hf) i hi
theorem itr_inv {n : Nat} {f : Nat → Nat} (hf : PM n f) : ∀ k i, i < n → itr f k (itr (inv n f) k i) = i
  | 0, _, _ => rfl
  | k + 1, i, hi => by
    have e : itr f (k + 1) (itr (inv n f) (k + 1) i) = itr f k (f (inv n f (itr (inv n f) k i))) := itr_add f k 1 _
    rw [e, (get_inv hf (itr_lt (inv_PM hf).1 k i hi)).2]
    exact itr_inv hf k i hi
theorem ntm (a b : Nat) : (a : Int).tmod (b : Int) = ((a % b : Nat) : Int) := rfl
/-- the power that the reference takes -/
theorem pwr_eq {n i : Nat} {f : Nat → Nat} (hn : n ≤ 7) (hf : PM n f) (hi : i < n) (k : Int) (e : Nat) (he : (e : Int) = (k.tmod (ord n f) + ord n f).tmod (ord n f)) : itr f e i = pwr n f k i := by
  obtain ⟨o1, o2⟩ := ord_le n f
  have ho := itr_ord hn hf hi
  unfold pwr
  by_cases c : k < 0
  · rw [if_pos c]
    obtain ⟨q, hq⟩ : ∃ q : Nat, k = -(q : Int) := ⟨(-k).toNat, by omega⟩
    subst hq
    have e2 : (-(-(q : Int))).toNat = q := by omega
    rw [e2]
    have hlt : q % ord n f < ord n f := Nat.mod_lt _ (by omega)
    have e3 : (e : Int) = ((ord n f - q % ord n f : Nat) : Int).tmod (ord n f) := by
      rw [he, Int.neg_tmod, ntm]
      congr 1
      omega
    rw [ntm] at e3
    have e4 : e = (ord n f - q % ord n f) % ord n f := by exact_mod_cast e3
    have hy := itr_lt (inv_PM hf).1 q i hi
    have e5 : itr f e i = itr f e (itr f q (itr (inv n f) q i)) := by rw [itr_inv hf q i hi]
    rw [e5, ← itr_add, per_mod (itr_ord hn hf hy)]
    have e6 : (e + q) % ord n f = 0 := by
      rw [e4, Nat.add_mod, Nat.mod_mod, ← Nat.add_mod]
      have := Nat.mod_add_div q (ord n f)
      have e7 : ord n f - q % ord n f + q = ord n f + ord n f * (q / ord n f) := by omega
      rw [e7, Nat.add_mul_mod_self_left, Nat.mod_self]
    rw [e6]; rfl
  · rw [if_neg c]
    obtain ⟨q, hq⟩ : ∃ q : Nat, k = (q : Int) := ⟨k.toNat, by omega⟩
    subst hq
    have e2 : ((q : Int)).toNat = q := by omega
    rw [e2]
    have e3 : (e : Int) = ((q % ord n f + ord n f : Nat) : Int).tmod (ord n f) := by
      rw [he, ntm]
      congr 1
    rw [ntm] at e3
    have e4 : e = (q % ord n f + ord n f) % ord n f := by exact_mod_cast e3
    rw [per_mod ho q, e4, Nat.add_mod_right, Nat.mod_mod]
/-! parity -/
theorem sm_iff {n i : Nat} {f : Nat → Nat} (hf : PM n f) (hi : i < n) : sm n f i = true ↔ ∀ k, i ≤ itr f k i := by
  obtain ⟨c1, c2, c3, c4⟩ := cyl_spec hf hi
  unfold sm
  rw [smA_all]
  constructor
  · intro h k
    rw [per_mod c3 k]
    have hlt : k % cyl n f i < cyl n f i := Nat.mod_lt _ (by omega)
    by_cases e : k % cyl n f i = 0
    · rw [e]; exact Nat.le_refl _
    · exact Nat.le_of_lt (h _ (by omega) (by omega))
  · intro h j h1 h2
    have := h j
    have := c4 j h1 (by omega)
    omega
/-- pairs that are exchanged -/
def ivs (f : Nat → Nat) (n : Nat) : Nat := sumN (fun i => ct (fun k => decide (f i < f k)) i) n
/-- without the last line -/
def sht (n : Nat) (f : Nat → Nat) : Nat → Nat := fun i => if f i = n then f n else f i
theorem sht_PM {n : Nat} {f : Nat → Nat} (hf : PM (n + 1) f) (hne : f n ≠ n) : PM n (sht n f) := by
  have hm : f n < n := by have := hf.1 n (by omega); omega
  refine ⟨fun i hi => ?_, fun i j hi hj e => ?_⟩
  · unfold sht
    have := hf.1 i (by omega)
    split <;> omega
  · unfold sht at e
    have hni : f i ≠ f n := fun z => by have := hf.2 i n (by omega) (by omega) z; omega
    have hnj : f j ≠ f n := fun z => by have := hf.2 j n (by omega) (by omega) z; omega
    by_cases c1 : f i = n <;> by_cases c2 : f j = n
    · exact hf.2 i j (by omega) (by omega) (by rw [c1, c2])
    · rw [if_pos c1, if_neg c2] at e; exact absurd e.symm hnj
    · rw [if_neg c1, if_pos c2] at e; exact absurd e hni
    · rw [if_neg c1, if_neg c2] at e; exact hf.2 i j (by omega) (by omega) e
theorem sht_sm {n i : Nat} {f : Nat → Nat} (hf : PM (n + 1) f) (hne : f n ≠ n) (hi : i < n) : sm (n + 1) f i = sm n (sht n f) i := by
  have hg := sht_PM hf hne
  have a : ∀ k, ∃ k', itr (sht n f) k i = itr f k' i := by
    intro k
    induction k with
    | zero => exact ⟨0, rfl⟩
    | succ k ih =>
      obtain ⟨k', e⟩ := ih
      show ∃ k2, sht n f (itr (sht n f) k i) = itr f k2 i
      rw [e]
      unfold sht
      by_cases c : f (itr f k' i) = n
      · rw [if_pos c]
        exact ⟨k' + 2, by show f n = f (f (itr f k' i)); rw [c]⟩
      · rw [if_neg c]
        exact ⟨k' + 1, rfl⟩
  have b : ∀ k, (itr f k i = n ∧ ∃ k', itr (sht n f) k' i = f n) ∨ ∃ k', itr (sht n f) k' i = itr f k i := by
    intro k
    induction k with
    | zero => exact Or.inr ⟨0, rfl⟩
    | succ k ih =>
      rcases ih with ⟨e, k', e2⟩ | ⟨k', e⟩
      · refine Or.inr ⟨k', ?_⟩
        rw [e2]
        show f n = f (itr f k i)
        rw [e]
      · by_cases c : f (itr f k i) = n
        · refine Or.inl ⟨c, k' + 1, ?_⟩
          show sht n f (itr (sht n f) k' i) = f n
          rw [e]; unfold sht; rw [if_pos c]
        · refine Or.inr ⟨k' + 1, ?_⟩
          show sht n f (itr (sht n f) k' i) = f (itr f k i)
          rw [e]; unfold sht; rw [if_neg c]
  have h1 := sm_iff hf (i := i) (by omega)
  have h2 := sm_iff hg hi
  refine Bool.eq_iff_iff.mpr (h1.trans (Iff.trans ?_ h2.symm))
  constructor
  · intro h k
    obtain ⟨k', e⟩ := a k
    rw [e]; exact h k'
  · intro h k
    rcases b k with ⟨e, -⟩ | ⟨k', e⟩
    · rw [e]; omega
    · rw [← e]; exact h k'
theorem ivs_cut {n j m : Nat} {f : Nat → Nat} (hf : PM (n + 1) f) (hm : f n = m) (hne : m ≠ n) (hj : j < n) (ej : f j = n) : ∀ N, N ≤ n → ivs f N + (if j < N then ct (fun k => decide (m < f k)) j else 0) = ivs (sht n f) N + ct (fun i => decide (j < i) && decide (m < f i)) N
  | 0, _ => rfl
  | N + 1, hN => by
    have ih := ivs_cut hf hm hne hj ej N (by omega)
    have hg : ∀ k, k < n → k ≠ j → sht n f k = f k := fun k hk hkj => if_neg (fun z => hkj (hf.2 k j (by omega) (by omega) (by rw [z, ej])))
    have hgj : sht n f j = m := by unfold sht; rw [if_pos ej, hm]
    have e1 : ivs f (N + 1) = ivs f N + ct (fun k => decide (f N < f k)) N := rfl
    have e2 : ivs (sht n f) (N + 1) = ivs (sht n f) N + ct (fun k => decide (sht n f N < sht n f k)) N := rfl
    have e3 : ct (fun i => decide (j < i) && decide (m < f i)) (N + 1) = ct (fun i => decide (j < i) && decide (m < f i)) N + if j < N ∧ m < f N then 1 else 0 := by
      show _ + (if (decide (j < N) && decide (m < f N)) = true then 1 else 0) = _
      by_cases c1 : j < N <;> by_cases c2 : m < f N <;> simp [c1, c2]
    rw [e1, e2, e3]
    rcases Nat.lt_trichotomy N j with c | c | c
    · rw [if_neg (by omega)] at ih ⊢
      rw [if_neg (by omega)]
      have e : ct (fun k => decide (f N < f k)) N = ct (fun k => decide (sht n f N < sht n f k)) N := ct_congr (fun k hk => by rw [hg N (by omega) (by omega), hg k (by omega) (by omega)])
      omega
    · subst c
      rw [if_neg (by omega)] at ih
      rw [if_pos (by omega), if_neg (by omega)]
      have e : ct (fun k => decide (f N < f k)) N = 0 := ct_none (fun k hk => by
        have := hf.1 k (by omega)
        rw [ej]
        exact decide_eq_false (by omega))
      have e' : ct (fun k => decide (sht n f N < sht n f k)) N = ct (fun k => decide (m < f k)) N := ct_congr (fun k hk => by rw [hgj, hg k (by omega) (by omega)])
      omega
    · rw [if_pos c] at ih
      rw [if_pos (by omega)]
      have hNm : f N ≠ m := fun z => by have := hf.2 N n (by omega) (by omega) (by rw [z, hm]); omega
      have hNn : f N < n := by
        have := hf.1 N (by omega)
        have : f N ≠ n := fun z => by have := hf.2 N j (by omega) (by omega) (by rw [z, ej]); omega
        omega
      have e : ct (fun k => decide (f N < f k)) N = ct (fun k => decide (sht n f N < sht n f k)) N + if m < f N then 1 else 0 := by
        rw [ct_split (fun k => decide (f N < f k)) (fun k => decide (k = j)), ct_split (fun k => decide (sht n f N < sht n f k)) (fun k => decide (k = j))]
        have g1 : ct (fun k => decide (f N < f k) && decide (k = j)) N = 1 := by
          have : ct (fun k => decide (f N < f k) && decide (k = j)) N = ct (fun k => decide (k = j) && true) N := ct_congr (fun k hk => by
            by_cases z : k = j
            · subst z; rw [ej]; simp [hNn]
            · simp [z])
          rw [this, ct_at]; simp [c]
        have g2 : ct (fun k => decide (sht n f N < sht n f k) && decide (k = j)) N = if f N < m then 1 else 0 := by
          have : ct (fun k => decide (sht n f N < sht n f k) && decide (k = j)) N = ct (fun k => decide (k = j) && decide (f N < m)) N := ct_congr (fun k hk => by
            by_cases z : k = j
            · subst z; rw [hgj, hg N (by omega) (by omega)]; simp
            · simp [z])
          rw [this, ct_at]; simp [c]
        have g3 : ct (fun k => decide (f N < f k) && !decide (k = j)) N = ct (fun k => decide (sht n f N < sht n f k) && !decide (k = j)) N := ct_congr (fun k hk => by
          by_cases z : k = j
          · simp [z]
          · rw [hg N (by omega) (by omega), hg k (by omega) z])
        rw [g1, g2, g3]
        by_cases z : m < f N
        · rw [if_neg (by omega), if_pos z]; omega
        · rw [if_pos (by omega), if_neg z]; omega
      by_cases z : m < f N
      · rw [if_pos z] at e; rw [if_pos ⟨c, z⟩]; omega
      · rw [if_neg z] at e; rw [if_neg (fun y => z y.2)]; omega
theorem par_ok : ∀ (n : Nat) (f : Nat → Nat), PM n f → ivs f n % 2 = (n - cycs n f) % 2
  | 0, _, _ => rfl
  | n + 1, f, hf => by
    have hcl : ∀ n f, cycs n f ≤ n := fun n f => ct_le _ n
    by_cases c : f n = n
    · have hf0 : PM n f := ⟨fun i hi => by
        have := hf.1 i (by omega)
        have : f i ≠ n := fun z => by have := hf.2 i n (by omega) (by omega) (by rw [z, c]); omega
        omega, fun i j hi hj e => hf.2 i j (by omega) (by omega) e⟩
      have ih := par_ok n f hf0
      have e1 : ivs f (n + 1) = ivs f n := by
        show ivs f n + ct (fun k => decide (f n < f k)) n = ivs f n
        rw [ct_none (fun k hk => by have := hf0.1 k hk; rw [c]; exact decide_eq_false (by omega))]; rfl
      have e2 : cycs (n + 1) f = cycs n f + 1 := by
        show ct (fun i => sm (n + 1) f i) n + (if sm (n + 1) f n = true then 1 else 0) = ct (fun i => sm n f i) n + 1
        have hit : ∀ k, itr f k n = n := fun k => by
          induction k with
          | zero => rfl
          | succ k ihk => show f (itr f k n) = n; rw [ihk, c]
        rw [if_pos ((sm_iff hf (by omega)).mpr (fun k => by rw [hit k]; exact Nat.le_refl _))]
        congr 1
        refine ct_congr (fun i hi => ?_)
        exact Bool.eq_iff_iff.mpr ((sm_iff hf (by omega)).trans (sm_iff hf0 hi).symm)
      have := hcl n f
      rw [e1, e2, ih]
      congr 1
      omega
    · obtain ⟨j, hj, ej⟩ := PM_sur hf (show n < n + 1 by omega)
      have hjn : j < n := by
        have : j ≠ n := fun z => c (by rw [← z]; rw [z] at ej ⊢; exact ej)
        omega
      have hg := sht_PM hf c
      have ih := par_ok n (sht n f) hg
      have hm := hf.1 n (by omega)
      have e2 : cycs (n + 1) f = cycs n (sht n f) := by
        show ct (fun i => sm (n + 1) f i) n + (if sm (n + 1) f n = true then 1 else 0) = ct (fun i => sm n (sht n f) i) n
        rw [if_neg (fun z => by have := (sm_iff hf (by omega)).mp z 1; have : n ≤ f n := this; omega)]
        exact ct_congr (fun i hi => sht_sm hf c hi)
      have e3 := ivs_cut hf rfl c hjn ej n (Nat.le_refl _)
      rw [if_pos hjn] at e3
      have e1 : ivs f (n + 1) = ivs f n + ct (fun k => decide (f n < f k)) n := rfl
      have e4 : ct (fun k => decide (f n < f k)) n = ct (fun k => decide (f n < f k)) j + 1 + ct (fun i => decide (j < i) && decide (f n < f i)) n := by
        have key : ∀ N, N ≤ n → ct (fun k => decide (f n < f k)) N = (if j < N then ct (fun k => decide (f n < f k)) j + 1 else ct (fun k => decide (f n < f k)) N) + ct (fun i => decide (j < i) && decide (f n < f i)) N := by
          intro N
          induction N with
          | zero => intro _; rfl
          | succ N ihN =>
            intro hN
            have ihN := ihN (by omega)
            have q1 : ct (fun k => decide (f n < f k)) (N + 1) = ct (fun k => decide (f n < f k)) N + if f n < f N then 1 else 0 := by
              show _ + (if decide (f n < f N) = true then 1 else 0) = _
              simp
            have q2 : ct (fun i => decide (j < i) && decide (f n < f i)) (N + 1) = ct (fun i => decide (j < i) && decide (f n < f i)) N + if j < N ∧ f n < f N then 1 else 0 := by
              show _ + (if (decide (j < N) && decide (f n < f N)) = true then 1 else 0) = _
              by_cases c1 : j < N <;> by_cases c2 : f n < f N <;> simp [c1, c2]
            rw [q2]
            rcases Nat.lt_trichotomy N j with g | g | g
            · rw [if_neg (by omega), if_neg (by omega)]
              rw [if_neg (by omega)] at ihN
              omega
            · subst g
              rw [if_neg (by omega)] at ihN
              rw [if_pos (by omega), if_neg (by omega), q1, ej, if_pos (by omega)]
              omega
            · rw [if_pos g] at ihN
              rw [if_pos (by omega), q1]
              by_cases z : f n < f N
              · rw [if_pos z, if_pos ⟨g, z⟩]; omega
              · rw [if_neg z, if_neg (fun y => z y.2)]; omega
        have := key n (Nat.le_refl _)
        rw [if_pos hjn] at this
        exact this
      have := hcl n (sht n f)
      rw [e1, e2]
      omega
