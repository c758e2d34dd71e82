/-! GROUPS: what some permutations generate, and how many they are -/
theorem ct_map {N M : Nat} {p q : Nat → Bool} (φ : Nat → Nat) (h1 : ∀ i, i < N → p i = true → φ i < M ∧ q (φ i) = true) (h2 : ∀ i j, i < N → j < N → p i = true → p j = true → φ i = φ j → i = j) : ct p N ≤ ct q M := by
  refine ct_pig (f := fun i => ct q (φ i)) (fun i j hi hj hp hq e => ?_) (fun i hi hp => ct_strict (h1 i hi hp).1 (h1 i hi hp).2)
  have e : ct q (φ i) = ct q (φ j) := e
  rcases Nat.lt_trichotomy (φ i) (φ j) with g | g | g
  · have := ct_strict g (h1 i hi hp).2; omega
  · exact h2 i j hi hj hp hq g
  · have := ct_strict g (h1 j hj hq).2; omega
theorem sr_fd {p : Nat → Bool} {z j : Nat} (hj : j < z) (hp : p j = true) : sr p z 0 < z ∧ p (sr p z 0) = true := by
  have h : sr p z 0 < z := Nat.lt_of_not_le fun c => by
    have := sr_no p z 0 j (Nat.zero_le _) (by omega)
    rw [hp] at this; cases this
  exact ⟨h, sr_yes p z 0 (by omega)⟩
/-- the number of a product, of an inverse -/
def mu (n x y : Nat) : Nat := rank n (fun i => unr n x (unr n y i))
def iv (n x : Nat) : Nat := rank n (inv n (unr n x))
theorem mu_lt (n x y : Nat) : mu n x y < fct n := rank_lt n _
theorem mu_at {n x y i : Nat} (hi : i < n) : unr n (mu n x y) i = unr n x (unr n y i) := unr_rank (PM_comp (unr_PM n x) (unr_PM n y)) i hi
theorem rk_un {n x y : Nat} (hx : x < fct n) (hy : y < fct n) (h : ∀ i, i < n → unr n x i = unr n y i) : x = y := by
  rw [← rank_unr hx, ← rank_unr hy, rank_congr h]
theorem mu_as {n x y z : Nat} : mu n (mu n x y) z = mu n x (mu n y z) := rank_congr (fun i hi => by
  show unr n (mu n x y) (unr n z i) = unr n x (unr n (mu n y z) i)
  rw [mu_at ((unr_PM n z).1 i hi), mu_at hi])
theorem iv_at {n x i : Nat} (hi : i < n) : unr n (iv n x) i = inv n (unr n x) i := unr_rank (inv_PM (unr_PM n x)) i hi
theorem iv_mu {n x y : Nat} (hy : y < fct n) : mu n (iv n x) (mu n x y) = y := rk_un (mu_lt _ _ _) hy (fun i hi => by
  have h1 := (unr_PM n y).1 i hi
  rw [mu_at hi, mu_at hi, iv_at ((unr_PM n x).1 _ h1), inv_get (unr_PM n x) h1])
theorem mu_iv {n x y : Nat} (hy : y < fct n) : mu n x (mu n (iv n x) y) = y := rk_un (mu_lt _ _ _) hy (fun i hi => by
  have h1 := (unr_PM n y).1 i hi
  rw [mu_at hi, mu_at hi, iv_at h1, (get_inv (unr_PM n x) h1).2])
theorem mu_ri {n x y : Nat} (hx : x < fct n) : mu n (mu n x y) (iv n y) = x := rk_un (mu_lt _ _ _) hx (fun i hi => by
  have h1 := get_inv (unr_PM n y) hi
  rw [mu_at hi, iv_at hi, mu_at h1.1, h1.2])
theorem mu_lc {n x y z : Nat} (hy : y < fct n) (hz : z < fct n) (e : mu n x y = mu n x z) : y = z := by
  rw [← iv_mu (x := x) hy, e, iv_mu hz]
/-- the size of a set that a group acts on from the right is a multiple of the group's -/
theorem lag {n : Nat} {K : Nat → Bool} (h0 : K 0 = true) (hm : ∀ x y, x < fct n → y < fct n → K x = true → K y = true → K (mu n x y) = true) (hi : ∀ x, x < fct n → K x = true → K (iv n x) = true) :
    ∀ (m : Nat) (H : Nat → Bool), ct H (fct n) ≤ m → (∀ x y, x < fct n → y < fct n → H x = true → K y = true → H (mu n x y) = true) → ct H (fct n) % ct K (fct n) = 0
  | 0, H, hc, _ => by rw [Nat.le_zero.mp hc]; exact Nat.zero_mod _
  | m + 1, H, hc, hH => by
    by_cases hz : ct H (fct n) = 0
    · rw [hz]; exact Nat.zero_mod _
    obtain ⟨x, hx, hHx⟩ : ∃ x, x < fct n ∧ H x = true := Classical.byContradiction fun z => hz (ct_none (fun k hk => by
      cases e : H k with
      | false => rfl
      | true => exact (z ⟨k, hk, e⟩).elim))
    have hK1 : 1 ≤ ct K (fct n) := by
      have := ct_strict (p := K) (fct_pos n) h0
      omega
    have c1 : ct (fun z => K (mu n (iv n x) z)) (fct n) = ct K (fct n) := Nat.le_antisymm (ct_map (fun z => mu n (iv n x) z) (fun z _ hp => ⟨mu_lt _ _ _, hp⟩) (fun a b ha hb _ _ e => mu_lc ha hb e))
      (ct_map (fun y => mu n x y) (fun y hy hp => ⟨mu_lt _ _ _, by show K (mu n (iv n x) (mu n x y)) = true; rw [iv_mu hy]; exact hp⟩) (fun a b ha hb _ _ e => mu_lc ha hb e))
    have c2 : ct (fun z => H z && K (mu n (iv n x) z)) (fct n) = ct (fun z => K (mu n (iv n x) z)) (fct n) := ct_congr (fun z hz => by
      cases e : K (mu n (iv n x) z) with
      | false => exact Bool.and_false _
      | true =>
        have := hH x _ hx (mu_lt n (iv n x) z) hHx e
        rw [mu_iv hz] at this
        rw [this]; rfl)
    have sp := ct_split H (fun z => K (mu n (iv n x) z)) (fct n)
    rw [c2, c1] at sp
    have ih := lag h0 hm hi m (fun z => H z && !K (mu n (iv n x) z)) (by omega) (fun a y ha hy hp hk => by
      simp only [Bool.and_eq_true, Bool.not_eq_true'] at hp ⊢
      refine ⟨hH a y ha hy hp.1 hk, ?_⟩
      cases e : K (mu n (iv n x) (mu n a y)) with
      | false => rfl
      | true =>
        exfalso
        rw [← mu_as] at e
        have e2 := hm _ (iv n y) (mu_lt _ _ _) (rank_lt n _) e (hi y hy hk)
        rw [mu_ri (mu_lt _ _ _), hp.2] at e2
        cases e2)
    rw [sp, Nat.add_mod_left]
    exact ih
/-! what the search finds -/
theorem ord_1 (n : Nat) (f : Nat → Nat) : 1 ≤ ord n f := sr_ge (idb n f) 11 1
def Kb (n set : Nat) (G : Nat → Nat → Nat) (x : Nat) : Bool := decide (bd (bfs n set G) x ≠ 0)
theorem Kb_iff {n set x : Nat} {G : Nat → Nat → Nat} (hG : ∀ r, r < 6 → PM n (G r)) : Kb n set G x = true ↔ ∃ w, okw set w ∧ x = rank n (pw G w) := by
  unfold Kb
  rw [decide_eq_true_eq]
  constructor
  · intro h
    obtain ⟨w, h1, -, h3⟩ := bfs_B (set := set) hG (bd (bfs n set G) x - 1) x (by omega)
    exact ⟨w, h1, h3⟩
  · rintro ⟨w, h1, rfl⟩
    exact (bfs_A hG h1).1
theorem bc_ct {n set : Nat} {G : Nat → Nat → Nat} : bc (bfs n set G) = ct (Kb n set G) (fct n) := by
  obtain ⟨⟨b1, b2, b3, -⟩, -⟩ := bfs_CI n set G
  refine Nat.le_antisymm (ct_inj (x := bf (bfs n set G)) (fun t ht => ⟨(b1 t ht).1, decide_eq_true (b1 t ht).2⟩) b3) ?_
  have key : ∀ x, Kb n set G x = true → sr (fun j => decide (bf (bfs n set G) j = x)) (bc (bfs n set G)) 0 < bc (bfs n set G) ∧ bf (bfs n set G) (sr (fun j => decide (bf (bfs n set G) j = x)) (bc (bfs n set G)) 0) = x := fun x hx => by
    obtain ⟨j, h1, h2⟩ := b2 x (of_decide_eq_true hx)
    have := sr_fd (p := fun j => decide (bf (bfs n set G) j = x)) h1 (decide_eq_true h2)
    exact ⟨this.1, of_decide_eq_true this.2⟩
  refine ct_pig (f := fun x => sr (fun j => decide (bf (bfs n set G) j = x)) (bc (bfs n set G)) 0) (fun a b _ _ ha hb e => ?_) (fun a _ ha => (key a ha).1)
  have e : sr (fun j => decide (bf (bfs n set G) j = a)) (bc (bfs n set G)) 0 = sr (fun j => decide (bf (bfs n set G) j = b)) (bc (bfs n set G)) 0 := e
  rw [← (key a ha).2, ← (key b hb).2, e]
theorem pw_app (G : Nat → Nat → Nat) : ∀ (w v : List Nat) (i : Nat), pw G (w ++ v) i = pw G v (pw G w i)
  | [], _, _ => rfl
  | r :: w, v, i => pw_app G w v (G r i)
theorem okw_app {set : Nat} {w v : List Nat} (hw : okw set w) (hv : okw set v) : okw set (w ++ v) := fun r hr => (List.mem_append.mp hr).elim (hw r) (hv r)
theorem Kb_0 {n set : Nat} {G : Nat → Nat → Nat} (hG : ∀ r, r < 6 → PM n (G r)) : Kb n set G 0 = true := (Kb_iff hG).mpr ⟨[], fun r hr => absurd hr List.not_mem_nil, (rank_id n).symm⟩
theorem Kb_mu {n set x y : Nat} {G : Nat → Nat → Nat} (hG : ∀ r, r < 6 → PM n (G r)) (hx : Kb n set G x = true) (hy : Kb n set G y = true) : Kb n set G (mu n x y) = true := by
  obtain ⟨w, hw, rfl⟩ := (Kb_iff hG).mp hx
  obtain ⟨v, hv, rfl⟩ := (Kb_iff hG).mp hy
  refine (Kb_iff hG).mpr ⟨v ++ w, okw_app hv hw, rank_congr (fun i hi => ?_)⟩
  show unr n (rank n (pw G w)) (unr n (rank n (pw G v)) i) = _
  rw [unr_rank (pw_PM hG hv) i hi, unr_rank (pw_PM hG hw) _ ((pw_PM hG hv).1 i hi), pw_app]
theorem Kb_it {n set x : Nat} {G : Nat → Nat → Nat} (hG : ∀ r, r < 6 → PM n (G r)) (hx : Kb n set G x = true) : ∀ k, Kb n set G (rank n (itr (unr n x) k)) = true
  | 0 => by
    have e : rank n (itr (unr n x) 0) = 0 := rank_id n
    rw [e]; exact Kb_0 hG
  | k + 1 => by
    have ih := Kb_mu hG hx (Kb_it hG hx k)
    have e : mu n x (rank n (itr (unr n x) k)) = rank n (itr (unr n x) (k + 1)) := rank_congr (fun i hi => by
      show unr n x (unr n (rank n (itr (unr n x) k)) i) = unr n x (itr (unr n x) k i)
      rw [unr_rank (itr_PM (unr_PM n x) k) i hi])
    rw [← e]; exact ih
theorem inv_itr {n i : Nat} {f : Nat → Nat} (hn : n ≤ 7) (hf : PM n f) (hi : i < n) : inv n f i = itr f (ord n f - 1) i := by
  have h1 := ord_1 n f
  have h2 := itr_ord hn hf hi
  have e : ord n f = (ord n f - 1) + 1 := by omega
  rw [e] at h2
  have h2 : f (itr f (ord n f - 1) i) = i := h2
  have h3 := inv_get hf (itr_lt hf.1 (ord n f - 1) i hi)
  rw [h2] at h3
  exact h3
theorem Kb_iv {n set x : Nat} {G : Nat → Nat → Nat} (hn : n ≤ 7) (hG : ∀ r, r < 6 → PM n (G r)) (hx : Kb n set G x = true) : Kb n set G (iv n x) = true := by
  have e : iv n x = rank n (itr (unr n x) (ord n (unr n x) - 1)) := rank_congr (fun i hi => inv_itr hn (unr_PM n x) hi)
  rw [e]; exact Kb_it hG hx _
theorem gen_all {n set : Nat} {G : Nat → Nat → Nat} (hn : n ≤ 7) (hG : ∀ r, r < 6 → PM n (G r)) : fct n % bc (bfs n set G) = 0 := by
  rw [bc_ct]
  have := lag (Kb_0 (set := set) hG) (fun x y _ _ => Kb_mu hG) (fun x _ => Kb_iv hn hG) (fct n) (fun _ => true) (ct_le _ _) (fun _ _ _ _ _ _ => rfl)
  rwa [ct_true] at this
theorem okw_in {s1 s2 : Nat} {w : List Nat} (h : ∀ r, r < 6 → s1 / 2 ^ r % 2 = 1 → s2 / 2 ^ r % 2 = 1) (hw : okw s1 w) : okw s2 w := fun r hr => ⟨(hw r hr).1, h r (hw r hr).1 (hw r hr).2⟩
theorem gen_in {n s1 s2 : Nat} {G : Nat → Nat → Nat} (hn : n ≤ 7) (hG : ∀ r, r < 6 → PM n (G r)) (h : ∀ r, r < 6 → s1 / 2 ^ r % 2 = 1 → s2 / 2 ^ r % 2 = 1) : bc (bfs n s2 G) % bc (bfs n s1 G) = 0 := by
  rw [bc_ct, bc_ct]
  refine lag (Kb_0 (set := s1) hG) (fun x y _ _ => Kb_mu hG) (fun x _ => Kb_iv hn hG) (fct n) (Kb n s2 G) (ct_le _ _) (fun x y _ _ hx hy => Kb_mu hG hx ?_)
  obtain ⟨w, hw, e⟩ := (Kb_iff hG).mp hy
  exact (Kb_iff hG).mpr ⟨w, okw_in h hw, e⟩
theorem gen_pos {n set : Nat} {G : Nat → Nat → Nat} (hG : ∀ r, r < 6 → PM n (G r)) : 1 ≤ bc (bfs n set G) := by
  rw [bc_ct]
  have := ct_strict (p := Kb n set G) (fct_pos n) (Kb_0 hG)
  omega
theorem pw_rep {G : Nat → Nat → Nat} {r : Nat} : ∀ {w : List Nat}, (∀ q, q ∈ w → q = r) → ∀ i, pw G w i = itr (G r) w.length i
  | [], _, _ => rfl
  | q :: w, h, i => by
    show pw G w (G q i) = _
    rw [pw_rep (w := w) (fun q hq => h q (List.mem_cons_of_mem _ hq)), h q List.mem_cons_self, List.length_cons, itr_add]
    rfl
theorem okw_one {r : Nat} {w : List Nat} (h : okw (2 ^ r) w) : ∀ q, q ∈ w → q = r := fun q hq => by
  have := (bit_dm _ _).mp (h q hq).2
  rw [Nat.testBit_two_pow, decide_eq_true_eq] at this
  exact this.symm
theorem itr_ne {n : Nat} {f : Nat → Nat} (hf : PM n f) {s t : Nat} (h : s < t) (ht : t < ord n f) (e : ∀ i, i < n → itr f s i = itr f t i) : False := by
  have := ord_no (n := n) (f := f) (m := t - s) (by omega) (by omega)
  have h2 : idb n f (t - s) = true := decide_eq_true (fun i hi => by
    have e2 := e i hi
    rw [show t = s + (t - s) by omega, itr_add] at e2
    exact (itr_inj hf s _ _ hi (itr_lt hf.1 _ i hi) e2).symm)
  rw [this] at h2
  cases h2
theorem gen_one {n r : Nat} {G : Nat → Nat → Nat} (hn : n ≤ 7) (hr : r < 6) (hG : ∀ r, r < 6 → PM n (G r)) : bc (bfs n (2 ^ r) G) = ord n (G r) := by
  have hf := hG r hr
  have ho := ord_1 n (G r)
  rw [bc_ct]
  refine Nat.le_antisymm ?_ ?_
  · have key : ∀ x, Kb n (2 ^ r) G x = true → sr (fun t => decide (rank n (itr (G r) t) = x)) (ord n (G r)) 0 < ord n (G r) ∧ rank n (itr (G r) (sr (fun t => decide (rank n (itr (G r) t) = x)) (ord n (G r)) 0)) = x := fun x hx => by
      obtain ⟨w, hw, e⟩ := (Kb_iff hG).mp hx
      have := sr_fd (p := fun t => decide (rank n (itr (G r) t) = x)) (j := w.length % ord n (G r)) (z := ord n (G r)) (Nat.mod_lt _ (by omega)) (decide_eq_true (by
        rw [e]
        refine rank_congr (fun i hi => ?_)
        rw [pw_rep (okw_one hw), ← per_mod (itr_ord hn hf hi)]))
      exact ⟨this.1, of_decide_eq_true this.2⟩
    refine ct_pig (f := fun x => sr (fun t => decide (rank n (itr (G r) t) = x)) (ord n (G r)) 0) (fun a b _ _ ha hb e => ?_) (fun a _ ha => (key a ha).1)
    have e : sr (fun t => decide (rank n (itr (G r) t) = a)) (ord n (G r)) 0 = sr (fun t => decide (rank n (itr (G r) t) = b)) (ord n (G r)) 0 := e
    rw [← (key a ha).2, ← (key b hb).2, e]
  · refine ct_inj (x := fun t => rank n (itr (G r) t)) (fun t ht => ⟨rank_lt n _, (Kb_iff hG).mpr ⟨List.replicate t r, fun q hq => ?_, rank_congr (fun i hi => ?_)⟩⟩) (fun s t hs ht e => ?_)
    · rw [(List.mem_replicate.mp hq).2]
      exact ⟨hr, (bit_dm _ _).mpr (by rw [Nat.testBit_two_pow]; simp)⟩
    · rw [pw_rep (r := r) (fun q hq => (List.mem_replicate.mp hq).2), List.length_replicate]
    · have e2 := rank_inj (itr_PM hf s) (itr_PM hf t) e
      rcases Nat.lt_trichotomy s t with g | g | g
      · exact (itr_ne hf g ht e2).elim
      · exact g
      · exact (itr_ne hf g hs (fun i hi => (e2 i hi).symm)).elim
theorem pow_ne {n k : Nat} {f : Nat → Nat} (hf : PM n f) (h1 : 1 ≤ k) (h2 : k < ord n f) : rank n (itr f k) ≠ 0 := fun e => by
  have e2 := rank_inj (itr_PM hf k) (PM_id n) (e.trans (rank_id n).symm)
  exact itr_ne hf (s := 0) (t := k) (by omega) h2 (fun i hi => (e2 i hi).symm)
theorem rk_0 {n : Nat} {f : Nat → Nat} (h : ∀ i, i < n → f i = i) : rank n f = 0 := (rank_congr h).trans (rank_id n)
theorem cyc_id {n : Nat} {f : Nat → Nat} (h : ∀ i, i < n → f i = i) : cycs n f = n := by
  have hf : PM n f := ⟨fun i hi => by rw [h i hi]; exact hi, fun i j hi hj e => by rw [h i hi, h j hj] at e; exact e⟩
  have hit : ∀ k i, i < n → itr f k i = i := fun k i hi => by
    induction k with
    | zero => rfl
    | succ k ih => show f (itr f k i) = i; rw [ih, h i hi]
  unfold cycs
  rw [ct_congr (q := fun _ => true) (fun i hi => (sm_iff hf hi).mpr (fun k => by rw [hit k i hi]; exact Nat.le_refl _)), ct_true]
theorem fix_id {n : Nat} {f : Nat → Nat} (h : ∀ i, i < n → f i = i) : fixs n f = n := by
  unfold fixs
  rw [ct_congr (q := fun _ => true) (fun i hi => decide_eq_true (h i hi)), ct_true]
