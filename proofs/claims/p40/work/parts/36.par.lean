/-! PARITIES of products, TYPES of products -/
theorem sumN_perm {n : Nat} {g : Nat → Nat} (F : Nat → Nat) (hg : PM n g) : sumN (fun i => F (g i)) n = sumN F n := by
  have e1 : sumN (fun i => F (g i)) n = sumN (fun i => sumN (fun v => if v = g i then F v else 0) n) n := sumN_congr (fun i hi => by
    rw [sumN_pick (j := g i) (g := F) n, if_pos (hg.1 i hi)])
  rw [e1, sumN_swap (fun i v => if v = g i then F v else 0) n n]
  refine sumN_congr (fun v hv => ?_)
  have e2 : sumN (fun i => if v = g i then F v else 0) n = sumN (fun i => if i = inv n g v then F v else 0) n := sumN_congr (fun i hi => by
    by_cases c : v = g i
    · rw [if_pos c, if_pos (by rw [c, inv_get hg hi])]
    · rw [if_neg c, if_neg (fun z => c (by rw [z]; exact (get_inv hg hv).2.symm))])
  rw [e2, sumN_pick (j := inv n g v) (g := fun _ => F v) n, if_pos (get_inv hg hv).1]
/-- a pair that is exchanged -/
def xa_ (f : Nat → Nat) (i k : Nat) : Nat := if k < i ∧ f i < f k then 1 else 0
/-- a sum over pairs -/
def sm2 (s : Nat → Nat → Nat) (n : Nat) : Nat := sumN (fun i => sumN (fun k => s i k) n) n
theorem sm2_congr {s s' : Nat → Nat → Nat} {n : Nat} (h : ∀ i k, i < n → k < n → s i k = s' i k) : sm2 s n = sm2 s' n := sumN_congr (fun i hi => sumN_congr (fun k hk => h i k hi hk))
theorem sm2_add (a b : Nat → Nat → Nat) (n : Nat) : sm2 (fun i k => a i k + b i k) n = sm2 a n + sm2 b n := by
  unfold sm2
  rw [← sumN_add]
  exact sumN_congr (fun i _ => sumN_add (a i) (b i) n)
theorem sm2_swap (s : Nat → Nat → Nat) (n : Nat) : sm2 (fun i k => s k i) n = sm2 s n := sumN_swap (fun i k => s k i) n n
theorem sm2_perm {n : Nat} {g : Nat → Nat} (s : Nat → Nat → Nat) (hg : PM n g) : sm2 (fun i k => s (g i) (g k)) n = sm2 s n := by
  unfold sm2
  have e : sumN (fun i => sumN (fun k => s (g i) (g k)) n) n = sumN (fun i => sumN (fun k => s (g i) k) n) n := sumN_congr (fun i _ => sumN_perm (fun k => s (g i) k) hg)
  rw [e]
  exact sumN_perm (fun i => sumN (fun k => s i k) n) hg
theorem ct_sumN (p : Nat → Bool) : ∀ n, ct p n = sumN (fun k => if p k = true then 1 else 0) n
  | 0 => rfl
  | n + 1 => by unfold ct sumN; rw [ct_sumN p n]
theorem xa_row {f : Nat → Nat} {i : Nat} : ∀ n, sumN (fun k => xa_ f i k) n = if n ≤ i then ct (fun k => decide (f i < f k)) n else ct (fun k => decide (f i < f k)) i
  | 0 => by rw [if_pos (Nat.zero_le _)]; rfl
  | n + 1 => by
    have ih := xa_row (f := f) (i := i) n
    show sumN (fun k => xa_ f i k) n + xa_ f i n = _
    rw [ih]
    unfold xa_
    by_cases c : n + 1 ≤ i
    · rw [if_pos (by omega), if_pos c]
      show _ = ct (fun k => decide (f i < f k)) n + if decide (f i < f n) = true then 1 else 0
      by_cases z : f i < f n
      · rw [if_pos ⟨by omega, z⟩, if_pos (decide_eq_true z)]
      · rw [if_neg (fun y => z y.2), if_neg (fun y => z (of_decide_eq_true y))]
    · rw [if_neg c, if_neg (fun y : n < i ∧ f i < f n => by omega)]
      by_cases d : n ≤ i
      · rw [if_pos d, show n = i by omega]; rfl
      · rw [if_neg d]; rfl
theorem ivs_sm2 {f : Nat → Nat} {n : Nat} : ivs f n = sm2 (xa_ f) n := sumN_congr (fun i hi => by
  rw [xa_row n, if_neg (by omega)])
theorem par_pt {x y u v p q : Nat} (h1 : x ≠ y) (h2 : u ≠ v) (h3 : p ≠ q) :
    ((if y < x ∧ p < q then 1 else 0) + (if x < y ∧ q < p then 1 else 0)) + 2 * (((if y < x ∧ u < v then 1 else 0) + (if x < y ∧ v < u then 1 else 0)) * ((if v < u ∧ p < q then 1 else 0) + (if u < v ∧ q < p then 1 else 0))) =
    ((if y < x ∧ u < v then 1 else 0) + (if x < y ∧ v < u then 1 else 0)) + ((if v < u ∧ p < q then 1 else 0) + (if u < v ∧ q < p then 1 else 0)) := by
  rcases Nat.lt_or_gt_of_ne h1 with a | a <;> rcases Nat.lt_or_gt_of_ne h2 with b | b <;> rcases Nat.lt_or_gt_of_ne h3 with c | c <;>
    simp [a, b, c, Nat.lt_asymm a, Nat.lt_asymm b, Nat.lt_asymm c]
/-- a symmetric sum without a diagonal is even -/
theorem sm2_even {s : Nat → Nat → Nat} {n : Nat} (hs : ∀ i k, s i k = s k i) (hd : ∀ i, s i i = 0) : sm2 s n % 2 = 0 := by
  have e : sm2 s n = sm2 (fun i k => (if k < i then s i k else 0) + (if i < k then s k i else 0)) n := sm2_congr (fun i k _ _ => by
    rcases Nat.lt_trichotomy i k with c | c | c
    · rw [if_neg (by omega), if_pos c, hs i k, Nat.zero_add]
    · subst c; rw [if_neg (Nat.lt_irrefl _)]; exact hd i
    · rw [if_pos c, if_neg (by omega), Nat.add_zero])
  rw [e, sm2_add (fun i k => if k < i then s i k else 0) (fun i k => if i < k then s k i else 0), sm2_swap (fun i k => if k < i then s i k else 0)]
  omega
theorem ivs_mul {n : Nat} {f g : Nat → Nat} (hf : PM n f) (hg : PM n g) : ivs (fun i => f (g i)) n % 2 = (ivs f n + ivs g n) % 2 := by
  have b2 : ∀ (x : Nat → Nat → Nat), sm2 (fun i k => x i k + x k i) n = sm2 x n + sm2 x n := fun x => by
    rw [sm2_add x (fun i k => x k i), sm2_swap x]
  have e1 := b2 (xa_ (fun i => f (g i)))
  have e2 := b2 (xa_ g)
  have e3 : sm2 (fun i k => xa_ f (g i) (g k) + xa_ f (g k) (g i)) n = sm2 (xa_ f) n + sm2 (xa_ f) n := by
    rw [sm2_perm (fun i k => xa_ f i k + xa_ f k i) hg, b2 (xa_ f)]
  have ev := sm2_even (n := n) (s := fun i k => (xa_ g i k + xa_ g k i) * (xa_ f (g i) (g k) + xa_ f (g k) (g i))) (fun i k => by
    show (xa_ g i k + xa_ g k i) * (xa_ f (g i) (g k) + xa_ f (g k) (g i)) = (xa_ g k i + xa_ g i k) * (xa_ f (g k) (g i) + xa_ f (g i) (g k))
    rw [Nat.add_comm (xa_ g i k), Nat.add_comm (xa_ f (g i) (g k))]) (fun i => by
    show (xa_ g i i + xa_ g i i) * _ = 0
    have : xa_ g i i = 0 := if_neg (fun z => Nat.lt_irrefl _ z.1)
    rw [this, Nat.zero_mul])
  have key : sm2 (fun i k => (xa_ (fun i => f (g i)) i k + xa_ (fun i => f (g i)) k i) + (((xa_ g i k + xa_ g k i) * (xa_ f (g i) (g k) + xa_ f (g k) (g i))) + ((xa_ g i k + xa_ g k i) * (xa_ f (g i) (g k) + xa_ f (g k) (g i))))) n = sm2 (fun i k => (xa_ g i k + xa_ g k i) + (xa_ f (g i) (g k) + xa_ f (g k) (g i))) n := sm2_congr (fun i k hi hk => by
    by_cases c : i = k
    · subst c
      have z : ∀ (h : Nat → Nat) (j : Nat), xa_ h j j = 0 := fun h j => if_neg (fun z => Nat.lt_irrefl _ z.1)
      rw [z, z, z]
    · have h2 : g i ≠ g k := fun e => c (hg.2 i k hi hk e)
      have h3 : f (g i) ≠ f (g k) := fun e => h2 (hf.2 _ _ (hg.1 i hi) (hg.1 k hk) e)
      have := par_pt c h2 h3
      unfold xa_
      rw [Nat.two_mul] at this
      exact this)
  rw [sm2_add (fun i k => xa_ (fun i => f (g i)) i k + xa_ (fun i => f (g i)) k i) (fun i k => ((xa_ g i k + xa_ g k i) * (xa_ f (g i) (g k) + xa_ f (g k) (g i))) + ((xa_ g i k + xa_ g k i) * (xa_ f (g i) (g k) + xa_ f (g k) (g i)))),
    sm2_add (fun i k => (xa_ g i k + xa_ g k i) * (xa_ f (g i) (g k) + xa_ f (g k) (g i))) (fun i k => (xa_ g i k + xa_ g k i) * (xa_ f (g i) (g k) + xa_ f (g k) (g i))),
    sm2_add (fun i k => xa_ g i k + xa_ g k i) (fun i k => xa_ f (g i) (g k) + xa_ f (g k) (g i)), e1, e2, e3] at key
  rw [ivs_sm2, ivs_sm2, ivs_sm2]
  omega
theorem par_mul {n : Nat} {f g : Nat → Nat} (hf : PM n f) (hg : PM n g) : (n - cycs n (fun i => f (g i))) % 2 = ((n - cycs n f) % 2 + (n - cycs n g) % 2) % 2 := by
  rw [← par_ok n _ (PM_comp hf hg), ← par_ok n f hf, ← par_ok n g hg, ivs_mul hf hg]
  omega
/-! types -/
theorem cj_itr {f g : Nat → Nat} : ∀ m i, g (itr (fun j => f (g j)) m i) = itr (fun j => g (f j)) m (g i)
  | 0, _ => rfl
  | m + 1, i => by
    show g (f (g (itr (fun j => f (g j)) m i))) = g (f (itr (fun j => g (f j)) m (g i)))
    rw [cj_itr (f := f) (g := g) m i]
theorem cj_cyl {n i : Nat} {f g : Nat → Nat} (hf : PM n f) (hg : PM n g) (hi : i < n) : cyl n (fun j => f (g j)) i = cyl n (fun j => g (f j)) (g i) := by
  unfold cyl
  refine sr_congr (fun m _ _ => decide_eq_decide.mpr ?_)
  rw [← cj_itr (f := f) (g := g)]
  exact ⟨fun h => by rw [h], fun h => hg.2 _ _ (itr_lt (PM_comp hf hg).1 m i hi) hi h⟩
/-- the first line of a line's cycle -/
def mnc (n : Nat) (f : Nat → Nat) (i : Nat) : Nat := sr (fun v => Nat.blt 0 (ct (fun t => decide (itr f t i = v)) n)) n 0
theorem ct_ex {p : Nat → Bool} {n : Nat} : Nat.blt 0 (ct p n) = true ↔ ∃ t, t < n ∧ p t = true := by
  constructor
  · intro h
    have h : 0 < ct p n := Nat.le_of_ble_eq_true h
    refine Classical.byContradiction fun z => ?_
    rw [ct_none (fun k hk => by
      cases e : p k with
      | false => rfl
      | true => exact (z ⟨k, hk, e⟩).elim)] at h
    exact Nat.lt_irrefl _ h
  · rintro ⟨t, h1, h2⟩
    have := ct_strict h1 h2
    exact Nat.ble_eq_true_of_le (show 0 + 1 ≤ ct p n by omega)
theorem mnc_ok {n i : Nat} {f : Nat → Nat} (hf : PM n f) (hi : i < n) : (∃ t, itr f t i = mnc n f i) ∧ mnc n f i < n ∧ ∀ t, mnc n f i ≤ itr f t i := by
  obtain ⟨c1, c2, c3, c4⟩ := cyl_spec hf hi
  have h0 := sr_fd (p := fun v => Nat.blt 0 (ct (fun t => decide (itr f t i = v)) n)) (z := n) (j := i) hi (ct_ex.mpr ⟨0, by omega, decide_eq_true rfl⟩)
  obtain ⟨t, -, h2⟩ := ct_ex.mp h0.2
  refine ⟨⟨t, of_decide_eq_true h2⟩, h0.1, fun t => Nat.le_of_not_lt fun z => ?_⟩
  have := sr_no (fun v => Nat.blt 0 (ct (fun t => decide (itr f t i = v)) n)) n 0 (itr f t i) (Nat.zero_le _) z
  have h3 : Nat.blt 0 (ct (fun t' => decide (itr f t' i = itr f t i)) n) = true := ct_ex.mpr ⟨t % cyl n f i, by
    have := Nat.mod_lt t (show cyl n f i > 0 by omega)
    omega, decide_eq_true (per_mod c3 t).symm⟩
  have this : Nat.blt 0 (ct (fun t' => decide (itr f t' i = itr f t i)) n) = false := this
  rw [h3] at this
  cases this
theorem orb_back {n i t : Nat} {f : Nat → Nat} (hf : PM n f) (hi : i < n) : ∃ s, itr f s (itr f t i) = i := by
  obtain ⟨c1, c2, c3, c4⟩ := cyl_spec hf hi
  refine ⟨t * cyl n f i - t, ?_⟩
  have : t ≤ t * cyl n f i := Nat.le_mul_of_pos_right t (by omega)
  rw [← itr_add, show t * cyl n f i - t + t = t * cyl n f i by omega]
  exact per_mul c3 t
theorem mnc_ct {n m : Nat} {f : Nat → Nat} (hf : PM n f) (hm : m < n) : ct (fun i => decide (mnc n f i = m)) n = if sm n f m = true then cyl n f m else 0 := by
  obtain ⟨c1, c2, c3, c4⟩ := cyl_spec hf hm
  by_cases c : sm n f m = true
  · rw [if_pos c]
    have hs := (sm_iff hf hm).mp c
    refine Nat.le_antisymm ?_ ?_
    · have key : ∀ i, i < n → mnc n f i = m → sr (fun t => decide (itr f t m = i)) (cyl n f m) 0 < cyl n f m ∧ itr f (sr (fun t => decide (itr f t m = i)) (cyl n f m) 0) m = i := fun i hi e => by
        obtain ⟨⟨t, h1⟩, -, -⟩ := mnc_ok hf hi
        obtain ⟨s, h2⟩ := orb_back (t := t) hf hi
        rw [h1, e] at h2
        have := sr_fd (p := fun t => decide (itr f t m = i)) (z := cyl n f m) (j := s % cyl n f m) (Nat.mod_lt _ (by omega)) (decide_eq_true (by rw [← per_mod c3]; exact h2))
        exact ⟨this.1, of_decide_eq_true this.2⟩
      refine ct_pig (f := fun i => sr (fun t => decide (itr f t m = i)) (cyl n f m) 0) (fun a b ha hb pa pb e => ?_) (fun a ha pa => (key a ha (of_decide_eq_true pa)).1)
      have e : sr (fun t => decide (itr f t m = a)) (cyl n f m) 0 = sr (fun t => decide (itr f t m = b)) (cyl n f m) 0 := e
      rw [← (key a ha (of_decide_eq_true pa)).2, ← (key b hb (of_decide_eq_true pb)).2, e]
    · refine ct_inj (x := fun t => itr f t m) (fun t ht => ⟨itr_lt hf.1 t m hm, decide_eq_true ?_⟩) (fun s t hs ht e => ?_)
      · obtain ⟨⟨u, h1⟩, -, h3⟩ := mnc_ok hf (itr_lt hf.1 t m hm)
        obtain ⟨s, h2⟩ := orb_back (t := t) hf hm
        have h4 := h3 s
        rw [h2] at h4
        have h5 := hs (u + t)
        rw [itr_add, h1] at h5
        exact Nat.le_antisymm h4 h5
      · have key : ∀ a b, a < b → b < cyl n f m → itr f a m = itr f b m → False := by
          intro a b h1 h2 e
          have e2 : itr f b m = itr f a (itr f (b - a) m) := by rw [← itr_add, show a + (b - a) = b by omega]
          rw [e2] at e
          exact c4 (b - a) (by omega) (by omega) (itr_inj hf a _ _ hm (itr_lt hf.1 _ m hm) e).symm
        rcases Nat.lt_trichotomy s t with g | g | g
        · exact (key s t g ht e).elim
        · exact g
        · exact (key t s g hs e.symm).elim
  · rw [if_neg c]
    refine ct_none (fun i hi => decide_eq_false (fun e => c ((sm_iff hf hm).mpr (fun k => ?_))))
    obtain ⟨⟨t, h1⟩, -, h3⟩ := mnc_ok hf hi
    have := h3 (k + t)
    rw [itr_add, h1, e] at this
    exact this
theorem sumN_mul (a : Nat) (F : Nat → Nat) : ∀ n, sumN (fun i => a * F i) n = a * sumN F n
  | 0 => rfl
  | n + 1 => by unfold sumN; rw [sumN_mul a F n, Nat.mul_add]
/-- a sum over lines is one over cycles, if it is the same all around a cycle -/
theorem cyc_sum {n : Nat} {f F : Nat → Nat} (hf : PM n f) (hF : ∀ i t, i < n → F (itr f t i) = F i) : sumN F n = sumN (fun m => if sm n f m = true then cyl n f m * F m else 0) n := by
  have e1 : sumN F n = sumN (fun i => sumN (fun m => if m = mnc n f i then F m else 0) n) n := sumN_congr (fun i hi => by
    obtain ⟨⟨t, h1⟩, h2, -⟩ := mnc_ok hf hi
    rw [sumN_pick (j := mnc n f i) (g := F) n, if_pos h2, ← h1, hF i t hi])
  rw [e1, sumN_swap (fun i m => if m = mnc n f i then F m else 0) n n]
  refine sumN_congr (fun m hm => ?_)
  have e2 : sumN (fun i => if m = mnc n f i then F m else 0) n = sumN (fun i => F m * if decide (mnc n f i = m) = true then 1 else 0) n := sumN_congr (fun i hi => by
    by_cases c : m = mnc n f i
    · rw [if_pos c, if_pos (decide_eq_true c.symm), Nat.mul_one]
    · rw [if_neg c, if_neg (fun z => c (of_decide_eq_true z).symm), Nat.mul_zero])
  rw [e2, sumN_mul, ← ct_sumN (fun i => decide (mnc n f i = m)), mnc_ct hf hm]
  by_cases c : sm n f m = true
  · rw [if_pos c, if_pos c, Nat.mul_comm]
  · rw [if_neg c, if_neg c, Nat.mul_zero]
theorem div420 : ∀ c, c < 8 → 1 ≤ c → c * (420 / c) = 420 := by decide
theorem ty_sum {n : Nat} {f : Nat → Nat} : ∀ N, tyA n f N = sumN (fun i => if sm n f i = true then 2 ^ (3 * (cyl n f i - 1)) else 0) N
  | 0 => rfl
  | N + 1 => by unfold tyA sumN; rw [ty_sum N]
def tyF (n : Nat) (f : Nat → Nat) (i : Nat) : Nat := 420 / cyl n f i * 2 ^ (3 * (cyl n f i - 1))
theorem ty_F {n : Nat} {f : Nat → Nat} (hn : n ≤ 7) (hf : PM n f) : 420 * tyA n f n = sumN (tyF n f) n := by
  rw [cyc_sum hf (fun i t hi => by unfold tyF; rw [cyl_itr hf hi]), ty_sum, ← sumN_mul]
  refine sumN_congr (fun i hi => ?_)
  obtain ⟨c1, c2, -⟩ := cyl_spec hf hi
  by_cases c : sm n f i = true
  · rw [if_pos c, if_pos c]
    unfold tyF
    rw [← Nat.mul_assoc, div420 _ (by omega) c1]
  · rw [if_neg c, if_neg c, Nat.mul_zero]
theorem ty_mul {n : Nat} {f g : Nat → Nat} (hn : n ≤ 7) (hf : PM n f) (hg : PM n g) : tyA n (fun i => f (g i)) n = tyA n (fun i => g (f i)) n := by
  have h1 := ty_F hn (PM_comp hf hg)
  have h2 := ty_F hn (PM_comp hg hf)
  have h3 : sumN (tyF n (fun i => f (g i))) n = sumN (fun i => tyF n (fun j => g (f j)) (g i)) n := sumN_congr (fun i hi => by
    unfold tyF
    rw [cj_cyl hf hg hi])
  rw [sumN_perm (tyF n (fun j => g (f j))) hg] at h3
  omega
