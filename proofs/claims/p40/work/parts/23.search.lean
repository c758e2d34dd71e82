/-! SEARCH: products of registers, the shorter ones first -/
/-- how many are found, their numbers in order, and by number 1 more than the factors, or 0 -/
abbrev Bs : Type := Nat × (Nat → Nat) × (Nat → Nat)
abbrev bc (s : Bs) : Nat := s.1
abbrev bf (s : Bs) : Nat → Nat := s.2.1
abbrev bd (s : Bs) : Nat → Nat := s.2.2
def bnote (s : Bs) (x d : Nat) : Bs := if bd s x = 0 then (bc s + 1, upn (bf s) (bc s) x, upn (bd s) x (d + 1)) else s
/-- the number of the product of the permutation with number x and g -/
def mlr (n x : Nat) (g : Nat → Nat) : Nat := rank n (fun i => unr n x (g i))
def bin (n set : Nat) (G : Nat → Nat → Nat) (x D : Nat) : Nat → Bs → Bs
  | 0, s => s
  | r + 1, s => if set / 2 ^ r % 2 = 1 then bnote (bin n set G x D r s) (mlr n x (G r)) D else bin n set G x D r s
def bou (n set : Nat) (G : Nat → Nat → Nat) : Nat → Nat → Bs → Bs
  | 0, _, s => s
  | z + 1, k, s => if k < bc s then bou n set G z (k + 1) (bin n set G (bf s k) (bd s (bf s k)) 6 s) else s
def bs0 : Bs := bnote (0, fun _ => 0, fun _ => 0) 0 0
def bfs (n set : Nat) (G : Nat → Nat → Nat) : Bs := bou n set G (fct n) 0 bs0
def BI (n : Nat) (s : Bs) : Prop := (∀ j, j < bc s → bf s j < fct n ∧ bd s (bf s j) ≠ 0) ∧ (∀ x, bd s x ≠ 0 → ∃ j, j < bc s ∧ bf s j = x) ∧ (∀ i j, i < bc s → j < bc s → bf s i = bf s j → i = j) ∧ ∀ x, bd s x ≤ bc s
def ext (s s' : Bs) : Prop := bc s ≤ bc s' ∧ (∀ j, j < bc s → bf s' j = bf s j) ∧ ∀ x, bd s x ≠ 0 → bd s' x = bd s x
theorem ext_rf {s : Bs} : ext s s := ⟨Nat.le_refl _, fun _ _ => rfl, fun _ _ => rfl⟩
theorem ext_tr {s s' s2 : Bs} (h : ext s s') (g : ext s' s2) : ext s s2 := ⟨Nat.le_trans h.1 g.1, fun j hj => (g.2.1 j (Nat.lt_of_lt_of_le hj h.1)).trans (h.2.1 j hj), fun x hx => by
  have e := h.2.2 x hx
  rw [g.2.2 x (by rw [e]; exact hx), e]⟩
theorem BI_le {n : Nat} {s : Bs} (h : BI n s) : bc s ≤ fct n := by
  have := ct_pig (n := bc s) (v := fct n) (f := bf s) (p := fun _ => true) (fun i j hi hj _ _ e => h.2.2.1 i j hi hj e) (fun i hi _ => (h.1 i hi).1)
  rw [ct_true] at this; exact this
theorem bnote_BI {n x d : Nat} {s : Bs} (h : BI n s) (hx : x < fct n) (hd : d ≤ bc s) : BI n (bnote s x d) ∧ ext s (bnote s x d) := by
  unfold bnote
  by_cases c : bd s x = 0
  · rw [if_pos c]
    have hne : ∀ j, j < bc s → bf s j ≠ x := fun j hj e => (h.1 j hj).2 (by rw [e]; exact c)
    refine ⟨⟨fun j hj => ?_, fun y hy => ?_, fun i j hi hj e => ?_, fun y => ?_⟩, ?_, fun j hj => ?_, fun y hy => ?_⟩
    · show upn (bf s) (bc s) x j < fct n ∧ upn (bd s) x (d + 1) (upn (bf s) (bc s) x j) ≠ 0
      have hj : j < bc s + 1 := hj
      unfold upn
      by_cases e : j = bc s
      · rw [if_pos e, if_pos rfl]; exact ⟨hx, by omega⟩
      · rw [if_neg e, if_neg (hne j (by omega))]; exact h.1 j (by omega)
    · have hy : upn (bd s) x (d + 1) y ≠ 0 := hy
      show ∃ j, j < bc s + 1 ∧ upn (bf s) (bc s) x j = y
      unfold upn at hy ⊢
      by_cases e : y = x
      · exact ⟨bc s, by omega, by rw [if_pos rfl, e]⟩
      · rw [if_neg e] at hy
        obtain ⟨j, h1, h2⟩ := h.2.1 y hy
        exact ⟨j, by omega, by rw [if_neg (by omega)]; exact h2⟩
    · have hi : i < bc s + 1 := hi
      have hj : j < bc s + 1 := hj
      have e : upn (bf s) (bc s) x i = upn (bf s) (bc s) x j := e
      unfold upn at e
      by_cases e1 : i = bc s <;> by_cases e2 : j = bc s
      · omega
      · rw [if_pos e1, if_neg e2] at e; exact absurd e.symm (hne j (by omega))
      · rw [if_neg e1, if_pos e2] at e; exact absurd e (hne i (by omega))
      · rw [if_neg e1, if_neg e2] at e; exact h.2.2.1 i j (by omega) (by omega) e
    · show upn (bd s) x (d + 1) y ≤ bc s + 1
      have := h.2.2.2 y
      unfold upn
      split <;> omega
    · show bc s ≤ bc s + 1
      omega
    · show upn (bf s) (bc s) x j = bf s j
      unfold upn; rw [if_neg (by omega)]
    · show upn (bd s) x (d + 1) y = bd s y
      unfold upn; rw [if_neg (fun e => hy (by rw [e]; exact c))]
  · rw [if_neg c]; exact ⟨h, ext_rf⟩
theorem bin_BI {n set x D : Nat} {G : Nat → Nat → Nat} {s : Bs} (h : BI n s) (hd : D ≤ bc s) : ∀ r, BI n (bin n set G x D r s) ∧ ext s (bin n set G x D r s)
  | 0 => ⟨h, ext_rf⟩
  | r + 1 => by
    have ih := bin_BI (set := set) (x := x) (G := G) h hd r
    unfold bin
    split
    · have := bnote_BI ih.1 (rank_lt n _ : mlr n x (G r) < fct n) (Nat.le_trans hd ih.2.1)
      exact ⟨this.1, ext_tr ih.2 this.2⟩
    · exact ih
theorem bs0_BI (n : Nat) : BI n bs0 := (bnote_BI (n := n) (s := (0, fun _ => 0, fun _ => 0)) ⟨fun j hj => absurd hj (Nat.not_lt_zero j), fun x hx => absurd rfl hx, fun i j hi => absurd hi (Nat.not_lt_zero i), fun x => Nat.le_refl _⟩ (fct_pos n) (Nat.le_refl _)).1
/-! the fewest factors -/
def CA (n set : Nat) (G : Nat → Nat → Nat) (s : Bs) : Prop := bd s 0 = 1 ∧ (∀ x, bd s x = 1 → x = 0) ∧ (∀ i j, i ≤ j → j < bc s → bd s (bf s i) ≤ bd s (bf s j)) ∧ ∀ x, 2 ≤ bd s x → ∃ y r, r < 6 ∧ set / 2 ^ r % 2 = 1 ∧ bd s y + 1 = bd s x ∧ 1 ≤ bd s y ∧ x = mlr n y (G r)
def CP (n set : Nat) (G : Nat → Nat → Nat) (s : Bs) (x D m : Nat) : Prop := ∀ r, r < m → set / 2 ^ r % 2 = 1 → bd s (mlr n x (G r)) ≠ 0 ∧ bd s (mlr n x (G r)) ≤ D + 1
def CI (n set : Nat) (G : Nat → Nat → Nat) (k : Nat) (s : Bs) : Prop := BI n s ∧ CA n set G s ∧ (∀ j, j < bc s → k < bc s → bd s (bf s j) ≤ bd s (bf s k) + 1) ∧ ∀ i, i < k → i < bc s → CP n set G s (bf s i) (bd s (bf s i)) 6
theorem bnote_CA {n set y r D : Nat} {G : Nat → Nat → Nat} {s : Bs} (hb : BI n s) (h : CA n set G s) (hr : r < 6) (hs : set / 2 ^ r % 2 = 1) (hy : bd s y = D) (hD : 1 ≤ D) (hm : ∀ j, j < bc s → bd s (bf s j) ≤ D + 1) :
    CA n set G (bnote s (mlr n y (G r)) D) ∧ (∀ j, j < bc (bnote s (mlr n y (G r)) D) → bd (bnote s (mlr n y (G r)) D) (bf (bnote s (mlr n y (G r)) D) j) ≤ D + 1) ∧ bd (bnote s (mlr n y (G r)) D) (mlr n y (G r)) ≠ 0 ∧ bd (bnote s (mlr n y (G r)) D) (mlr n y (G r)) ≤ D + 1 := by
  generalize hx : mlr n y (G r) = x
  unfold bnote
  by_cases c : bd s x = 0
  · rw [if_pos c]
    have hne : ∀ j, j < bc s → bf s j ≠ x := fun j hj e => (hb.1 j hj).2 (by rw [e]; exact c)
    have ud : ∀ z, z ≠ x → upn (bd s) x (D + 1) z = bd s z := fun z hz => if_neg hz
    have ux : upn (bd s) x (D + 1) x = D + 1 := if_pos rfl
    have uf : ∀ j, j < bc s → upn (bf s) (bc s) x j = bf s j := fun j hj => if_neg (by omega)
    have uc : upn (bf s) (bc s) x (bc s) = x := if_pos rfl
    obtain ⟨h1, h2, h3, h4⟩ := h
    have hyx : y ≠ x := fun e => by rw [e, c] at hy; omega
    have h0x : 0 ≠ x := fun e => by rw [← e, h1] at c; omega
    refine ⟨⟨?_, fun z hz => ?_, fun i j hij hj => ?_, fun z hz => ?_⟩, fun j hj => ?_, ?_, ?_⟩
    · show upn (bd s) x (D + 1) 0 = 1
      rw [ud 0 h0x]; exact h1
    · have hz : upn (bd s) x (D + 1) z = 1 := hz
      by_cases e : z = x
      · subst e; rw [ux] at hz; omega
      · rw [ud z e] at hz; exact h2 z hz
    · have hj : j < bc s + 1 := hj
      show upn (bd s) x (D + 1) (upn (bf s) (bc s) x i) ≤ upn (bd s) x (D + 1) (upn (bf s) (bc s) x j)
      by_cases e : j = bc s
      · subst e
        rw [uc, ux]
        by_cases e2 : i = bc s
        · subst e2; rw [uc, ux]; exact Nat.le_refl _
        · rw [uf i (by omega), ud _ (hne i (by omega))]; exact hm i (by omega)
      · rw [uf i (by omega), uf j (by omega), ud _ (hne i (by omega)), ud _ (hne j (by omega))]
        exact h3 i j hij (by omega)
    · have hz : 2 ≤ upn (bd s) x (D + 1) z := hz
      by_cases e : z = x
      · subst e
        refine ⟨y, r, hr, hs, ?_, ?_, hx.symm⟩
        · show upn (bd s) z (D + 1) y + 1 = upn (bd s) z (D + 1) z
          rw [ux, ud y hyx, hy]
        · show 1 ≤ upn (bd s) z (D + 1) y
          rw [ud y hyx, hy]; exact hD
      · rw [ud z e] at hz
        obtain ⟨y', r', g1, g2, g3, g4, g5⟩ := h4 z hz
        have hy' : y' ≠ x := fun e => by rw [e, c] at g4; omega
        refine ⟨y', r', g1, g2, ?_, ?_, g5⟩
        · show upn (bd s) x (D + 1) y' + 1 = upn (bd s) x (D + 1) z
          rw [ud _ hy', ud _ e]; exact g3
        · show 1 ≤ upn (bd s) x (D + 1) y'
          rw [ud _ hy']; exact g4
    · have hj : j < bc s + 1 := hj
      show upn (bd s) x (D + 1) (upn (bf s) (bc s) x j) ≤ D + 1
      by_cases e : j = bc s
      · subst e; rw [uc, ux]; exact Nat.le_refl _
      · rw [uf j (by omega), ud _ (hne j (by omega))]; exact hm j (by omega)
    · show upn (bd s) x (D + 1) x ≠ 0
      rw [ux]; omega
    · show upn (bd s) x (D + 1) x ≤ D + 1
      rw [ux]; exact Nat.le_refl _
  · rw [if_neg c]
    obtain ⟨j, hj, e⟩ := hb.2.1 x c
    exact ⟨h, hm, c, by rw [← e]; exact hm j hj⟩
theorem bin_CA {n set x D : Nat} {G : Nat → Nat → Nat} {s : Bs} (hb : BI n s) (h : CA n set G s) (hx : bd s x = D) (hD : 1 ≤ D) (hc : D ≤ bc s) (hm : ∀ j, j < bc s → bd s (bf s j) ≤ D + 1) : ∀ r, r ≤ 6 →
    CA n set G (bin n set G x D r s) ∧ (∀ j, j < bc (bin n set G x D r s) → bd (bin n set G x D r s) (bf (bin n set G x D r s) j) ≤ D + 1) ∧ CP n set G (bin n set G x D r s) x D r
  | 0, _ => ⟨h, hm, fun r hr => absurd hr (Nat.not_lt_zero r)⟩
  | r + 1, hr => by
    obtain ⟨i1, i2, i3⟩ := bin_CA hb h hx hD hc hm r (by omega)
    obtain ⟨b1, b2⟩ := bin_BI (set := set) (x := x) (G := G) hb hc r
    have hx' : bd (bin n set G x D r s) x = D := by rw [b2.2.2 x (by omega)]; exact hx
    unfold bin
    by_cases c : set / 2 ^ r % 2 = 1
    · rw [if_pos c]
      obtain ⟨k1, k2, k3, k4⟩ := bnote_CA b1 i1 (by omega) c hx' hD i2
      have k5 : ext (bin n set G x D r s) (bnote (bin n set G x D r s) (mlr n x (G r)) D) := (bnote_BI b1 (rank_lt n _) (Nat.le_trans hc b2.1)).2
      refine ⟨k1, k2, fun r' hr' hs' => ?_⟩
      by_cases e : r' = r
      · subst e; exact ⟨k3, k4⟩
      · obtain ⟨z1, z2⟩ := i3 r' (by omega) hs'
        rw [k5.2.2 _ z1]
        exact ⟨z1, z2⟩
    · rw [if_neg c]
      refine ⟨i1, i2, fun r' hr' hs' => ?_⟩
      by_cases e : r' = r
      · subst e; exact absurd hs' c
      · exact i3 r' (by omega) hs'
theorem bou_CI {n set : Nat} {G : Nat → Nat → Nat} : ∀ z k s, CI n set G k s → fct n ≤ k + z → ∃ k', bc (bou n set G z k s) ≤ k' ∧ CI n set G k' (bou n set G z k s)
  | 0, k, s, h, hz => ⟨k, by have := BI_le h.1; unfold bou; omega, h⟩
  | z + 1, k, s, h, hz => by
    unfold bou
    by_cases c : k < bc s
    · rw [if_pos c]
      refine bou_CI z (k + 1) _ ?_ (by omega)
      obtain ⟨hb, ha, hm, hp⟩ := h
      have hD : 1 ≤ bd s (bf s k) := Nat.pos_of_ne_zero (hb.1 k c).2
      obtain ⟨a1, a2, a3⟩ := bin_CA hb ha rfl hD (hb.2.2.2 _) (fun j hj => hm j hj c) 6 (Nat.le_refl _)
      obtain ⟨b1, b2, b3, b4⟩ := bin_BI (set := set) (x := bf s k) (G := G) hb (hb.2.2.2 (bf s k)) 6
      generalize bin n set G (bf s k) (bd s (bf s k)) 6 s = s' at a1 a2 a3 b1 b2 b3 b4
      have ek : bd s' (bf s' k) = bd s (bf s k) := by rw [b3 k c, b4 _ (by omega)]
      refine ⟨b1, a1, fun j hj hk => ?_, fun i hi hic => ?_⟩
      · have := a2 j hj
        have := a1.2.2.1 k (k + 1) (by omega) hk
        omega
      · by_cases e : i = k
        · subst e
          rw [ek, b3 i c]
          exact a3
        · have hik : i < bc s := by omega
          rw [b3 i hik, b4 _ (hb.1 i hik).2]
          intro r hr hs
          obtain ⟨z1, z2⟩ := hp i (by omega) hik r hr hs
          rw [b4 _ z1]
          exact ⟨z1, z2⟩
    · rw [if_neg c]
      exact ⟨k, by omega, h⟩
theorem bs0_bd (x : Nat) : bd bs0 x = if x = 0 then 1 else 0 := by
  show upn (fun _ => 0) 0 1 x = _
  unfold upn
  rfl
theorem bs0_bf (x : Nat) : bf bs0 x = 0 := by
  show upn (fun _ => 0) 0 0 x = _
  unfold upn
  split <;> rfl
theorem bs0_CI (n set : Nat) (G : Nat → Nat → Nat) : CI n set G 0 bs0 := by
  refine ⟨bs0_BI n, ⟨bs0_bd 0, fun x hx => ?_, fun i j _ _ => ?_, fun x hx => ?_⟩, fun j _ _ => ?_, fun i hi => absurd hi (Nat.not_lt_zero i)⟩
  · rw [bs0_bd] at hx
    by_cases e : x = 0
    · exact e
    · rw [if_neg e] at hx; omega
  · rw [bs0_bf, bs0_bf]; exact Nat.le_refl _
  · rw [bs0_bd] at hx
    split at hx <;> omega
  · rw [bs0_bf, bs0_bf]; omega
theorem bfs_CI (n set : Nat) (G : Nat → Nat → Nat) : BI n (bfs n set G) ∧ CA n set G (bfs n set G) ∧ ∀ x, bd (bfs n set G) x ≠ 0 → CP n set G (bfs n set G) x (bd (bfs n set G) x) 6 := by
  obtain ⟨k, h1, h2, h3, -, h5⟩ := bou_CI (n := n) (set := set) (G := G) (fct n) 0 bs0 (bs0_CI n set G) (by omega)
  refine ⟨h2, h3, fun x hx => ?_⟩
  obtain ⟨j, hj, e⟩ := h2.2.1 x hx
  rw [← e]
  exact h5 j (by have : bc (bfs n set G) ≤ k := h1; omega) hj
theorem rank_id (n : Nat) : rank n (fun i => i) = 0 := by
  have key : ∀ i, rkA (fun i => i) n i = 0 := by
    intro i
    induction i with
    | zero => rfl
    | succ i ih =>
      unfold rkA
      rw [ih]
      have : less (fun i => i) n i = 0 := ct_none (fun k _ => by
        by_cases h : i < k
        · have : ¬ k < i := by omega
          simp [this]
        · simp [h])
      rw [this]
      omega
  exact key n
/-- the product of a word's registers, the last one first in the list -/
def pw (G : Nat → Nat → Nat) : List Nat → Nat → Nat
  | [], i => i
  | r :: w, i => pw G w (G r i)
def okw (set : Nat) (w : List Nat) : Prop := ∀ r ∈ w, r < 6 ∧ set / 2 ^ r % 2 = 1
theorem PM_comp {n : Nat} {f g : Nat → Nat} (hf : PM n f) (hg : PM n g) : PM n (fun i => f (g i)) := ⟨fun i hi => hf.1 _ (hg.1 i hi), fun i j hi hj e => hg.2 i j hi hj (hf.2 _ _ (hg.1 i hi) (hg.1 j hj) e)⟩
theorem PM_id (n : Nat) : PM n (fun i => i) := ⟨fun _ h => h, fun _ _ _ _ e => e⟩
theorem pw_PM {n set : Nat} {G : Nat → Nat → Nat} (hG : ∀ r, r < 6 → PM n (G r)) : ∀ {w : List Nat}, okw set w → PM n (pw G w)
  | [], _ => PM_id n
  | r :: w, h => PM_comp (f := pw G w) (g := G r) (pw_PM (w := w) (set := set) hG (fun q hq => h q (List.mem_cons_of_mem _ hq))) (hG r (h r List.mem_cons_self).1)
theorem mlr_pw {n r : Nat} {G : Nat → Nat → Nat} {w : List Nat} (hG : PM n (G r)) (hw : PM n (pw G w)) : mlr n (rank n (pw G w)) (G r) = rank n (pw G (r :: w)) := rank_congr (fun i hi => unr_rank hw _ (hG.1 i hi))
theorem bfs_A {n set : Nat} {G : Nat → Nat → Nat} (hG : ∀ r, r < 6 → PM n (G r)) : ∀ {w : List Nat}, okw set w → bd (bfs n set G) (rank n (pw G w)) ≠ 0 ∧ bd (bfs n set G) (rank n (pw G w)) ≤ w.length + 1
  | [], _ => by
    have e : rank n (pw G []) = 0 := rank_id n
    rw [e, (bfs_CI n set G).2.1.1]
    exact ⟨by omega, by omega⟩
  | r :: w, h => by
    have hw : okw set w := fun q hq => h q (List.mem_cons_of_mem _ hq)
    obtain ⟨a1, a2⟩ := bfs_A hG hw
    obtain ⟨r1, r2⟩ := h r List.mem_cons_self
    have := (bfs_CI n set G).2.2 _ a1 r r1 r2
    rw [mlr_pw (hG r r1) (pw_PM hG hw)] at this
    rw [List.length_cons]
    exact ⟨this.1, by omega⟩
theorem bfs_B {n set : Nat} {G : Nat → Nat → Nat} (hG : ∀ r, r < 6 → PM n (G r)) : ∀ (m x : Nat), bd (bfs n set G) x = m + 1 → ∃ w, okw set w ∧ w.length = m ∧ x = rank n (pw G w)
  | 0, x, h => ⟨[], (fun r hr => absurd hr List.not_mem_nil), rfl, ((bfs_CI n set G).2.1.2.1 x h).trans (rank_id n).symm⟩
  | m + 1, x, h => by
    obtain ⟨y, r, h1, h2, h3, h4, h5⟩ := (bfs_CI n set G).2.1.2.2.2 x (by omega)
    obtain ⟨w, g1, g2, g3⟩ := bfs_B (set := set) hG m y (by omega)
    refine ⟨r :: w, fun q hq => ?_, by rw [List.length_cons, g2], ?_⟩
    · rcases List.mem_cons.mp hq with e | e
      · subst e; exact ⟨h1, h2⟩
      · exact g1 q e
    · rw [h5, g3, mlr_pw (hG r h1) (pw_PM hG g1)]
theorem snoc_ex : ∀ (a : Nat) (v : List Nat), ∃ v' r, a :: v = v' ++ [r]
  | a, [] => ⟨[], a, rfl⟩
  | a, b :: v => by
    obtain ⟨v', r, e⟩ := snoc_ex b v
    exact ⟨a :: v', r, by rw [e]; rfl⟩
theorem pw_snoc (G : Nat → Nat → Nat) (r : Nat) : ∀ (w : List Nat) (i : Nat), pw G (w ++ [r]) i = G r (pw G w i)
  | [], _ => rfl
  | q :: w, i => pw_snoc G r w (G q i)
/-- what has to follow a factor -/
def wo (n : Nat) (g f : Nat → Nat) : Nat → Nat := fun i => inv n g (f i)
theorem wo_PM {n : Nat} {g f : Nat → Nat} (hg : PM n g) (hf : PM n f) : PM n (wo n g f) := PM_comp (f := inv n g) (g := f) (inv_PM hg) hf
def ffb (n set : Nat) (G : Nat → Nat → Nat) (s : Bs) (f : Nat → Nat) (r : Nat) : Bool := decide (set / 2 ^ r % 2 = 1 ∧ bd s (rank n (wo n (G r) f)) + 1 = bd s (rank n f))
/-- the first factor -/
def ff (n set : Nat) (G : Nat → Nat → Nat) (s : Bs) (f : Nat → Nat) : Nat := sr (ffb n set G s f) 6 0
theorem bfs_C {n set : Nat} {G : Nat → Nat → Nat} {f : Nat → Nat} (hG : ∀ r, r < 6 → PM n (G r)) (hf : PM n f) (h : 2 ≤ bd (bfs n set G) (rank n f)) : ff n set G (bfs n set G) f < 6 := by
  obtain ⟨w, g1, g2, g3⟩ := bfs_B (set := set) hG (bd (bfs n set G) (rank n f) - 1) (rank n f) (by omega)
  cases w with
  | nil => rw [List.length_nil] at g2; omega
  | cons a v =>
    obtain ⟨w, r, e⟩ := snoc_ex a v
    rw [e] at g1 g2 g3
    rw [List.length_append, List.length_singleton] at g2
    have hw : okw set w := fun q hq => g1 q (List.mem_append.mpr (Or.inl hq))
    obtain ⟨r1, r2⟩ := g1 r (List.mem_append.mpr (Or.inr List.mem_cons_self))
    have hpw := pw_PM hG hw
    have hfw : ∀ i, i < n → f i = G r (pw G w i) := fun i hi => by
      rw [rank_inj hf (pw_PM hG g1) g3 i hi, pw_snoc]
    have e1 : rank n (wo n (G r) f) = rank n (pw G w) := rank_congr (fun i hi => by
      show inv n (G r) (f i) = _
      rw [hfw i hi, inv_get (hG r r1) (hpw.1 i hi)])
    obtain ⟨a1, a2⟩ := bfs_A hG hw
    have hlow : bd (bfs n set G) (rank n f) ≤ bd (bfs n set G) (rank n (pw G w)) + 1 := by
      obtain ⟨w2, k1, k2, k3⟩ := bfs_B (set := set) hG (bd (bfs n set G) (rank n (pw G w)) - 1) (rank n (pw G w)) (by omega)
      have hok : okw set (w2 ++ [r]) := fun q hq => by
        rcases List.mem_append.mp hq with z | z
        · exact k1 q z
        · rw [List.mem_singleton.mp z]; exact ⟨r1, r2⟩
      have := (bfs_A hG hok).2
      have e2 : rank n (pw G (w2 ++ [r])) = rank n f := rank_congr (fun i hi => by
        rw [pw_snoc, hfw i hi, rank_inj hpw (pw_PM hG k1) k3 i hi])
      rw [e2, List.length_append, List.length_singleton] at this
      omega
    have hb : ffb n set G (bfs n set G) f r = true := decide_eq_true ⟨r2, by rw [e1]; omega⟩
    refine Nat.lt_of_not_le fun hge => ?_
    have := sr_no (ffb n set G (bfs n set G) f) 6 0 r (Nat.zero_le _) (by unfold ff at hge; omega)
    rw [hb] at this
    cases this
def fac (n set : Nat) (G : Nat → Nat → Nat) (s : Bs) : Nat → (Nat → Nat) → Nat
  | 0, f => ff n set G s f
  | i + 1, f => fac n set G s i (wo n (G (ff n set G s f)) f)
theorem ff_step {n set : Nat} {G : Nat → Nat → Nat} {s : Bs} {f : Nat → Nat} (h : ff n set G s f < 6) : set / 2 ^ ff n set G s f % 2 = 1 ∧ bd s (rank n (wo n (G (ff n set G s f)) f)) + 1 = bd s (rank n f) := of_decide_eq_true (sr_yes (ffb n set G s f) 6 0 (by unfold ff at h; omega))
/-! the class's search -/
def isSea (h : xHp) (a n set : Nat) (G : Nat → Nat → Nat) (s : Bs) : Prop :=
  xat h a (xob 4 [.int (nI (bc s)), .int (nI n), .int (nI set), .ref (a + 1), .ref (a + 2), .ref (a + 3)]) ∧ (∃ f, xat h (a + 1) (xia 6 f) ∧ ∀ r, r < 6 → f r = R (nrm n (G r))) ∧
  (∃ f, xat h (a + 2) (xia 5040 f) ∧ ∀ j, j < bc s → f j = R (nrm n (unr n (bf s j)))) ∧ ∃ f, xat h (a + 3) (xia 5040 f) ∧ ∀ x, x < 5040 → f x = fI (bd s x)
def shSea (h : xHp) (a : Nat) : Prop := ∃ (c n s : Int32) (f1 f2 f3 : Nat → Int32), xat h a (xob 4 [.int c, .int n, .int s, .ref (a + 1), .ref (a + 2), .ref (a + 3)]) ∧ xat h (a + 1) (xia 6 f1) ∧ xat h (a + 2) (xia 5040 f2) ∧ xat h (a + 3) (xia 5040 f3)
theorem isSea.sh {h : xHp} {a n set : Nat} {G : Nat → Nat → Nat} {s : Bs} (hs : isSea h a n set G s) : shSea h a := by
  obtain ⟨h0, ⟨f1, h1, -⟩, ⟨f2, h2, -⟩, ⟨f3, h3, -⟩⟩ := hs
  exact ⟨_, _, _, f1, f2, f3, h0, h1, h2, h3⟩
theorem shSea.fr {h h' : xHp} {a lo hi : Nat} (hp : shSea h a) (f : frm h h' lo hi) (hd : a + 4 ≤ lo ∨ hi ≤ a) : shSea h' a := by
  obtain ⟨c, n, s, f1, f2, f3, h0, h1, h2, h3⟩ := hp
  exact ⟨c, n, s, f1, f2, f3, xat_fr h0 f (by omega), xat_fr h1 f (by omega), xat_fr h2 f (by omega), xat_fr h3 f (by omega)⟩
theorem sp_Sea_isFactor {h : xHp} {a n set r : Nat} {G : Nat → Nat → Nat} {s : Bs} (hs : isSea h a n set G s) (h64 : set < 64) (hr : r < 6) : Spec g_Sea_isFactor [.ref a, .int (nI r)] h (some (.int (nI (if set / 2 ^ r % 2 = 1 then 1 else 0)))) h := by
  obtain ⟨h0, -⟩ := hs
  refine Spec.of (by decide +kernel) (Nat.le_of_ble_eq_true rfl) ⟨_, rfl⟩ rfl rfl (fun c hc => by cases hc; exact ⟨_, _, _, rfl, h0⟩) (fun Q hQ => ?_)
  refine xgoal [] 100 ok_Sea_isFactor ?_
  refine xgf h0 rfl ?_
  have e : nI set >>> (nI r &&& 31) &&& nI 1 = nI (set / 2 ^ r % 2) := by
    rw [n_shr (by omega) (by omega), n_and, show (1 : Nat) = 2 ^ 1 - 1 from rfl, Nat.and_two_pow_sub_one_eq_mod]
  refine pk_eq (set / 2 ^ r % 2) 1 (fun c => ?_) (fun c => ?_) e rfl
  · rw [if_pos c] at hQ; exact ⟨Or.inr rfl, hQ⟩
  · rw [if_neg c] at hQ; exact ⟨Or.inl rfl, hQ⟩
theorem sp_Sea_depthOf {h : xHp} {a n set : Nat} {G : Nat → Nat → Nat} {s : Bs} {f : Nat → Nat} (hs : isSea h a n set G s) (hn : n ≤ 7) (hf : PM n f) : Spec g_Sea_depthOf [.ref a, .int (R (nrm n f))] h (some (.int (fI (bd s (rank n f))))) h := by
  obtain ⟨h0, -, -, ⟨f3, h3, r3⟩⟩ := hs
  have h5 := fct_le hn
  have h6 := rank_lt n f
  refine Spec.of (by decide +kernel) (Nat.le_of_ble_eq_true rfl) ⟨_, rfl⟩ rfl rfl (fun c hc => by cases hc; exact ⟨_, _, _, rfl, h0⟩) (fun Q hQ => ?_)
  refine xgoal [] 100 ok_Sea_depthOf ?_
  refine xgf h0 rfl ?_
  refine xci (sp_Perm_number hn hf h) ?_
  refine pk_lt (rank n f) 0 (fun c => absurd c (by omega)) (fun _ => ?_)
  refine pk_le 5040 (rank n f) (fun c => absurd c (by omega)) (fun _ => ?_)
  refine xgf h0 rfl ?_
  refine xal h3 rfl (show rank n f < 5040 by omega) (by decide) ?_
  rw [← r3 _ (by omega)] at hQ
  exact hQ
theorem sp_Sea_note {h : xHp} {a n set d : Nat} {G : Nat → Nat → Nat} {s : Bs} {f : Nat → Nat} (hs : isSea h a n set G s) (hb : BI n s) (hn : n ≤ 7) (hf : PM n f) (hd : d ≤ bc s) : SpecR g_Sea_note [.ref a, .int (R (nrm n f)), .int (nI d)] h (fun v h' => v = none ∧ isSea h' a n set G (bnote s (rank n f) d) ∧ frm h h' a (a + 4)) := by
  have hs0 := hs
  obtain ⟨h0, ⟨f1, h1, r1⟩, ⟨f2, h2, r2⟩, ⟨f3, h3, r3⟩⟩ := hs
  have h5 := fct_le hn
  have h6 := rank_lt n f
  have hb2 := (bnote_BI hb h6 hd).1
  have hle := BI_le hb2
  refine SpecR.of (by decide +kernel) (Nat.le_of_ble_eq_true rfl) (fun c hc => by cases hc; exact ⟨_, _, _, rfl, h0⟩) (fun v h' z => ⟨z.1, z.2.2.1, z.2.2.2.1⟩) (fun Q hQ => ?_)
  refine xgoal [] 100 ok_Sea_note ?_
  refine xgf h0 rfl ?_
  refine xci (sp_Perm_number hn hf h) ?_
  refine pk_lt (rank n f) 0 (fun c => absurd c (by omega)) (fun _ => ?_)
  refine pk_le 5040 (rank n f) (fun c => absurd c (by omega)) (fun _ => ?_)
  refine xgf h0 rfl ?_
  refine xal h3 rfl (show rank n f < 5040 by omega) (by decide) ?_
  unfold bnote at hQ hle
  by_cases c : bd s (rank n f) = 0
  · rw [if_pos c] at hQ hle
    have hle : bc s + 1 ≤ fct n := hle
    refine And.intro (fun _ => ?_) (fun z => absurd ((r3 _ (by omega)).trans (by rw [c]; rfl)) z)
    refine xgf h0 rfl ?_
    refine pk_le 5040 (bc s) (fun z => absurd z (by omega)) (fun _ => ?_)
    refine xgf h0 rfl ?_
    refine xal h3 rfl (show rank n f < 5040 by omega) (by decide) ?_
    refine xgf (xat_set h0 (by omega)) rfl ?_
    refine xgf (xat_set h0 (by omega)) rfl ?_
    refine xal (xat_set h2 (by omega)) rfl (show bc s < 5040 by omega) (by decide) ?_
    refine xgf (xat_set (xat_set h0 (by omega)) (by omega)) rfl ?_
    refine xpf (xat_set (xat_set h0 (by omega)) (by omega)) (Nat.le_of_ble_eq_true rfl) rfl ?_
    refine hQ _ _ ⟨rfl, ⟨?_, ⟨f1, xat_set (xat_set (xat_set h1 (by omega)) (by omega)) (by omega), r1⟩, ⟨_, xat_set (xat_sf (h := xset _ _ _) h2.1) (by omega), fun j hj => ?_⟩, ⟨_, xat_set (xat_set (xat_sf h3.1) (by omega)) (by omega), fun x hx => ?_⟩⟩, frm_set (frm_set (frm_set frm_rf (by omega) (by omega)) (by omega) (by omega)) (by omega) (by omega)⟩
    · show xat _ a (xob 4 [.int (nI (bc s + 1)), _, _, _, _, _])
      rw [← nI_1 (bc s)]
      exact xat_sf (h := xset _ _ _) h0.1
    · have hj : j < bc s + 1 := hj
      show upd f2 (bc s) _ j = R (nrm n (unr n (upn (bf s) (bc s) (rank n f) j)))
      unfold upd upn
      by_cases e : j = bc s
      · rw [if_pos e, if_pos e]
        exact R_nrm (fun i hi => (unr_rank hf i hi).symm)
      · rw [if_neg e, if_neg e]; exact r2 j (by omega)
    · show upd f3 (rank n f) _ x = fI (upn (bd s) (rank n f) (d + 1) x)
      unfold upd upn
      by_cases e : x = rank n f
      · rw [if_pos e, if_pos e]; rfl
      · rw [if_neg e, if_neg e]; exact r3 x hx
  · rw [if_neg c] at hQ
    refine And.intro (fun z => ?_) (fun _ => hQ _ _ ⟨rfl, hs0, frm_rf⟩)
    rw [r3 _ (by omega)] at z
    unfold fI at z
    rw [if_neg c] at z
    have := hb.2.2.2 (rank n f)
    exact absurd z (nI_m1 (by have := BI_le hb; omega))
theorem sp_Sea_spread {h : xHp} {a b set : Nat} {σ : Sv} (hp : shSea h a) (hs : isState h b σ) (hk : sok σ) (h64 : set < 64) (hd : a + 4 ≤ b ∨ b + 7 ≤ a) : SpecR g_Sea_spread [.ref a, .ref b, .int (nI set)] h (fun v h' => v = none ∧ isSea h' a (sN σ) set (sR σ) (bfs (sN σ) set (sR σ)) ∧ frm h h' a (a + 4)) := by
  obtain ⟨c0, n0, s0, f1, f2, f3, h0, h1, h2, h3⟩ := hp
  obtain ⟨b0, ⟨g, b1, r1⟩, -⟩ := hs
  obtain ⟨hn1, hn, -, hG, -⟩ := hk
  have h5 := fct_le hn
  generalize hX : bfs (sN σ) set (sR σ) = X
  unfold bfs at hX
  generalize sN σ = n at *
  generalize sR σ = G at *
  refine SpecR.of (by decide +kernel) (Nat.le_of_ble_eq_true rfl) (fun c hc => by cases hc; exact ⟨_, _, _, rfl, h0⟩) (fun v h' z => ⟨z.1, z.2.2.1, z.2.2.2.1⟩) (fun Q hQ => ?_)
  have at55 : ∀ k, k ≤ fct n → ∀ (h1 : xHp) (s : Bs), frm h h1 a (a + 4) → isSea h1 a n set G s → BI n s → bou n set G (fct n - k) k s = X → xAt (h.1, h.2.1) g_Sea_spread Q 55 [(0, .ref a), (3, .int (nI k))] [] h1 := by
    refine up_loop (P := fun k => ∀ (h1 : xHp) (s : Bs), frm h h1 a (a + 4) → isSea h1 a n set G s → BI n s → bou n set G (fct n - k) k s = X → xAt (h.1, h.2.1) g_Sea_spread Q 55 [(0, .ref a), (3, .int (nI k))] [] h1) (fct n) ?_ (fun k hk ih => ?_)
    · intro h1 s fr hs hb he
      have hle := BI_le hb
      rw [Nat.sub_self] at he
      have he : s = X := he
      subst he
      refine xgoal [(55, [0, 3]), (85, [0, 3, 4, 5])] 100 ok_Sea_spread ?_
      refine xgf hs.1 rfl ?_
      exact pk_le (bc s) (fct n) (fun _ => hQ _ _ ⟨rfl, hs, fr⟩) (fun z => absurd z (by omega))
    · intro h1 s fr hs hb he
      have hle := BI_le hb
      rw [show fct n - k = (fct n - (k + 1)) + 1 by omega] at he
      unfold bou at he
      refine xgoal [(55, [0, 3]), (85, [0, 3, 4, 5])] 100 ok_Sea_spread ?_
      refine xgf hs.1 rfl ?_
      refine pk_le (bc s) k (fun z => ?_) (fun z => ?_)
      · rw [if_neg (by omega)] at he
        subst he
        exact hQ _ _ ⟨rfl, hs, fr⟩
      · rw [if_pos z] at he
        refine pk_le 5040 k (fun z => absurd z (by omega)) (fun _ => ?_)
        obtain ⟨x0, ⟨y1, x1, e1⟩, ⟨y2, x2, e2⟩, x3⟩ := hs
        have hs : isSea h1 a n set G s := ⟨x0, ⟨y1, x1, e1⟩, ⟨y2, x2, e2⟩, x3⟩
        obtain ⟨hx, hx0⟩ := hb.1 k z
        have hpm := unr_PM n (bf s k)
        refine xgf x0 rfl ?_
        refine xal x2 rfl (show k < 5040 by omega) (by decide) ?_
        have sp := sp_Sea_depthOf hs hn hpm
        rw [← e2 k z, rank_unr hx] at sp
        refine xci sp ?_
        have ed : fI (bd s (bf s k)) = nI (bd s (bf s k) - 1) := if_neg hx0
        have hD := hb.2.2.2 (bf s k)
        refine up_loop (P := fun r => ∀ h2 : xHp, frm h h2 a (a + 4) → isSea h2 a n set G (bin n set G (bf s k) (bd s (bf s k)) r s) → xAt (h.1, h.2.1) g_Sea_spread Q 85 [(0, .ref a), (3, .int (nI k)), (4, .int (fI (bd s (bf s k)))), (5, .int (nI r))] [] h2) 6 ?_ (fun r hr ihr => ?_) 0 (Nat.zero_le _) h1 fr hs
        · intro h2 fr2 hs2
          refine xgoal [(55, [0, 3]), (85, [0, 3, 4, 5])] 100 ok_Sea_spread ?_
          refine pk_le 6 6 (fun _ => ?_) (fun z => absurd z (by omega))
          have ih := ih h2 _ fr2 hs2 (bin_BI hb hD 6).1 he
          rw [← nI_1 k] at ih
          exact ih
        · intro h2 fr2 hs2
          obtain ⟨g1, g2⟩ := bin_BI (set := set) (x := bf s k) (G := G) hb hD r
          unfold bin at ihr
          refine xgoal [(55, [0, 3]), (85, [0, 3, 4, 5])] 100 ok_Sea_spread ?_
          refine pk_le 6 r (fun z => absurd z (by omega)) (fun _ => ?_)
          refine xci (sp_Sea_isFactor hs2 h64 hr) ?_
          by_cases cs : set / 2 ^ r % 2 = 1
          · refine pk_eq 1 0 (fun z => absurd z (by omega)) (fun _ => ?_) (by rw [if_pos cs]) rfl
            rw [if_pos cs] at ihr
            obtain ⟨w0, ⟨z1, w1, q1⟩, ⟨z2, w2, q2⟩, w3⟩ := hs2
            have hs2 : isSea h2 a n set G (bin n set G (bf s k) (bd s (bf s k)) r s) := ⟨w0, ⟨z1, w1, q1⟩, ⟨z2, w2, q2⟩, w3⟩
            refine xgf w0 rfl ?_
            refine xal w2 rfl (show k < 5040 by omega) (by decide) ?_
            refine xgf w0 rfl ?_
            refine xal w1 rfl hr (by decide) ?_
            refine xgf w0 rfl ?_
            have sp := sp_Row_turned (f := unr n (bf s k)) (g := G r) hn (fun i hi => by have := hpm.1 i hi; omega) (hG r hr).1 h2
            rw [← q1 r hr, show R (nrm n (unr n (bf s k))) = z2 k by rw [q2 k (Nat.lt_of_lt_of_le z g2.1), g2.2.1 k z]] at sp
            refine xci sp ?_
            have sp2 := sp_Sea_note (d := bd s (bf s k)) hs2 g1 hn (PM_comp hpm (hG r hr)) (Nat.le_trans hD g2.1)
            rw [show nI (bd s (bf s k)) = fI (bd s (bf s k)) + nI 1 by rw [ed, nI_add]; congr 1; omega] at sp2
            refine xrv sp2 ?_
            rintro h3 ⟨-, hs3, fr3⟩
            have ihr := ihr h3 (frm_tr fr2 fr3 (Nat.le_refl _) (Nat.le_refl _)) hs3
            rw [← nI_1 r] at ihr
            exact ihr
          · refine pk_eq 0 0 (fun _ => ?_) (fun z => absurd rfl z) (by rw [if_neg cs]) rfl
            rw [if_neg cs] at ihr
            have ihr := ihr h2 fr2 hs2
            rw [← nI_1 r] at ihr
            exact ihr
  refine xgoal [(55, [0, 3]), (85, [0, 3, 4, 5])] 100 ok_Sea_spread ?_
  refine xgf b0 rfl ?_
  refine xpf h0 (Nat.le_of_ble_eq_true rfl) rfl ?_
  refine xpf (xat_sf h0.1) (Nat.le_of_ble_eq_true rfl) rfl ?_
  have k0 : ∀ {e e' : xE}, xat (xset (xset h a e) a e') a e' := fun {e e'} => xat_sf h0.1
  have kb : ∀ {c : Nat} {e0 e e' : xE}, xat h c e0 → c ≠ a → xat (xset (xset h a e) a e') c e0 := fun {c e0 e e'} q z => xat_set (xat_set q z) z
  refine xgf (kb b0 (by omega)) rfl ?_
  refine xgf k0 rfl ?_
  refine xcp (kb b1 (by omega)) (kb h1 (by omega)) rfl rfl rfl (by decide) (by decide) (by decide) (by decide) ?_
  refine xgf (xat_set k0 (by omega)) rfl ?_
  refine xcv_ (sp_JA_fill (-1) (xat_set (kb h3 (by omega)) (by omega)) (by decide)) ?_
  refine xpf (xat_set (xat_set k0 (by omega)) (by omega)) (Nat.le_of_ble_eq_true rfl) rfl ?_
  refine xgf (xat_sf (h := xset _ _ _) h0.1) rfl ?_
  refine xci (sp_Row_ascending hn _) ?_
  refine xrv (sp_Sea_note (n := n) (set := set) (G := G) (d := 0) (s := (0, fun _ => 0, fun _ => 0)) ⟨xat_sf (h := xset _ _ _) h0.1, ⟨_, xat_set (xat_set (xat_sf (h := xset _ _ _) h1.1) (by omega)) (by omega), fun r hr => ?_⟩, ⟨f2, xat_set (xat_set (xat_set (kb h2 (by omega)) (by omega)) (by omega)) (by omega), fun j hj => absurd hj (Nat.not_lt_zero j)⟩, ⟨_, xat_set (xat_sf (h := xset _ _ _) h3.1) (by omega), fun x hx => ?_⟩⟩ ⟨fun j hj => absurd hj (Nat.not_lt_zero j), fun x hx => absurd rfl hx, fun i j hi => absurd hi (Nat.not_lt_zero i), fun x => Nat.le_refl _⟩ hn (PM_id n) (Nat.le_refl _)) ?_
  · rw [cpy0 hr]; exact r1 r hr
  · unfold fil; rw [if_pos hx]; rfl
  · rintro h' ⟨-, hs', fr'⟩
    rw [rank_id] at hs'
    exact at55 0 (Nat.zero_le _) h' _ (frm_tr (frm_set (frm_set (frm_set (frm_set (frm_set frm_rf (by omega) (by omega)) (by omega) (by omega)) (by omega) (by omega)) (by omega) (by omega)) (by omega) (by omega)) fr' (Nat.le_refl _) (Nat.le_refl _)) hs' (bs0_BI n) hX
theorem sp_Sea_without {h : xHp} {a n set r : Nat} {G : Nat → Nat → Nat} {s : Bs} {f : Nat → Nat} (hs : isSea h a n set G s) (hn : n ≤ 7) (hr : r < 6) (hg : PM n (G r)) (hf : PM n f) : Spec g_Sea_without [.ref a, .int (nI r), .int (R (nrm n f))] h (some (.int (R (nrm n (wo n (G r) f))))) h := by
  obtain ⟨h0, ⟨f1, h1, r1⟩, -⟩ := hs
  refine Spec.of (by decide +kernel) (Nat.le_of_ble_eq_true rfl) ⟨_, rfl⟩ rfl rfl (fun c hc => by cases hc; exact ⟨_, _, _, rfl, h0⟩) (fun Q hQ => ?_)
  refine xgoal [] 100 ok_Sea_without ?_
  refine pk_lt r 0 (fun c => absurd c (by omega)) (fun _ => ?_)
  refine pk_lt r 6 (fun _ => ?_) (fun c => absurd c (by omega))
  refine xgf h0 rfl ?_
  refine xal h1 rfl hr (by decide) ?_
  refine xgf h0 rfl ?_
  have sp := sp_Perm_inverse hn hg h
  rw [← r1 r hr] at sp
  refine xci sp ?_
  refine xgf h0 rfl ?_
  exact xci (sp_Row_turned (f := inv n (G r)) (g := f) hn (fun i hi => by have := (inv_PM hg).1 i hi; omega) hf.1 h) hQ
theorem sp_Sea_firstFactor {h : xHp} {a n set : Nat} {G : Nat → Nat → Nat} {s : Bs} {f : Nat → Nat} (hs : isSea h a n set G s) (hb : BI n s) (hn : n ≤ 7) (h64 : set < 64) (hG : ∀ r, r < 6 → PM n (G r)) (hf : PM n f) (h2 : 2 ≤ bd s (rank n f)) (h6 : ff n set G s f < 6) : Spec g_Sea_firstFactor [.ref a, .int (R (nrm n f))] h (some (.int (nI (ff n set G s f)))) h := by
  have h0 := hs.1
  have h5 := fct_le hn
  have hle := BI_le hb
  have hbb := hb.2.2.2
  refine Spec.of (by decide +kernel) (Nat.le_of_ble_eq_true rfl) ⟨_, rfl⟩ rfl rfl (fun c hc => by cases hc; exact ⟨_, _, _, rfl, h0⟩) (fun Q hQ => ?_)
  refine xgoal [(8, [0, 1, 2, 3])] 100 ok_Sea_firstFactor ?_
  refine xci (sp_Sea_depthOf hs hn hf) ?_
  refine up_loop (P := fun r => ff n set G s f = sr (ffb n set G s f) (6 - r) r → xAt (h.1, h.2.1) g_Sea_firstFactor Q 8 [(0, .ref a), (1, .int (R (nrm n f))), (2, .int (fI (bd s (rank n f)))), (3, .int (nI r))] [] h) 6 (fun he => ?_) (fun r hr ih => ?_) 0 (Nat.zero_le _) rfl
  · have : ff n set G s f = 6 := he
    omega
  · intro he
    rw [show 6 - r = (6 - (r + 1)) + 1 by omega] at he
    unfold sr at he
    refine xgoal [(8, [0, 1, 2, 3])] 100 ok_Sea_firstFactor ?_
    refine pk_le 6 r (fun z => absurd z (by omega)) (fun _ => ?_)
    refine xci (sp_Sea_isFactor hs h64 hr) ?_
    by_cases cs : set / 2 ^ r % 2 = 1
    · refine pk_eq 1 0 (fun z => absurd z (by omega)) (fun _ => ?_) (by rw [if_pos cs]) rfl
      refine xci (sp_Sea_without hs hn hr (hG r hr) hf) ?_
      refine xci (sp_Sea_depthOf hs hn (wo_PM (hG r hr) hf)) ?_
      have e1 : fI (bd s (rank n f)) - nI 1 = nI (bd s (rank n f) - 2) := by
        unfold fI; rw [if_neg (by omega), pk_sub (by omega)]; rfl
      have e2 : fI (bd s (rank n (wo n (G r) f))) = nI (bd s (rank n f) - 2) ↔ bd s (rank n (wo n (G r) f)) + 1 = bd s (rank n f) := by
        have g1 := hbb (rank n f)
        have g2 := hbb (rank n (wo n (G r) f))
        unfold fI
        by_cases z : bd s (rank n (wo n (G r) f)) = 0
        · rw [if_pos z]
          exact ⟨fun y => absurd y.symm (nI_m1 (by omega)), fun y => by omega⟩
        · rw [if_neg z, nI_eq (by omega) (by omega)]
          omega
      refine And.intro (fun z => ?_) (fun z => ?_)
      · rw [e1] at z
        rw [if_pos (show ffb n set G s f r = true from decide_eq_true ⟨cs, e2.mp z⟩)] at he
        rw [he] at hQ
        exact hQ
      · rw [e1] at z
        rw [if_neg (show ¬ ffb n set G s f r = true from fun y => z (e2.mpr (of_decide_eq_true y).2))] at he
        have ih := ih he
        rw [← nI_1 r] at ih
        exact ih
    · refine pk_eq 0 0 (fun _ => ?_) (fun z => absurd rfl z) (by rw [if_neg cs]) rfl
      rw [if_neg (show ¬ ffb n set G s f r = true from fun y => cs (of_decide_eq_true y).1)] at he
      have ih := ih he
      rw [← nI_1 r] at ih
      exact ih
theorem sp_Sea_factorAt {h : xHp} {a n set i : Nat} {G : Nat → Nat → Nat} {s : Bs} {f : Nat → Nat} (hs : isSea h a n set G s) (hb : BI n s) (hn : n ≤ 7) (h64 : set < 64) (hG : ∀ r, r < 6 → PM n (G r)) (hC : ∀ g, PM n g → 2 ≤ bd s (rank n g) → ff n set G s g < 6) (hf : PM n f) (hi : i + 2 ≤ bd s (rank n f)) : Spec g_Sea_factorAt [.ref a, .int (R (nrm n f)), .int (nI i)] h (some (.int (nI (fac n set G s i f)))) h := by
  have h0 := hs.1
  have h5 := fct_le hn
  have hle := BI_le hb
  have hbb := hb.2.2.2 (rank n f)
  refine Spec.of (by decide +kernel) (Nat.le_of_ble_eq_true rfl) ⟨_, rfl⟩ rfl rfl (fun c hc => by cases hc; exact ⟨_, _, _, rfl, h0⟩) (fun Q hQ => ?_)
  refine xgoal [(5, [0, 2, 3, 4])] 100 ok_Sea_factorAt ?_
  refine up_loop (P := fun k => ∀ g, PM n g → i - k + 2 ≤ bd s (rank n g) → fac n set G s i f = fac n set G s (i - k) g → xAt (h.1, h.2.1) g_Sea_factorAt Q 5 [(0, .ref a), (2, .int (nI i)), (3, .int (R (nrm n g))), (4, .int (nI k))] [] h) i (fun g hg hd he => ?_) (fun k hk ih => ?_) 0 (Nat.zero_le _) f hf hi rfl
  · rw [Nat.sub_self] at he hd
    have he : fac n set G s i f = ff n set G s g := he
    rw [he] at hQ
    refine xgoal [(5, [0, 2, 3, 4])] 100 ok_Sea_factorAt ?_
    refine pk_le i i (fun _ => ?_) (fun z => absurd z (by omega))
    exact xci (sp_Sea_firstFactor hs hb hn h64 hG hg (by omega) (hC g hg (by omega))) hQ
  · intro g hg hd he
    have h6 := hC g hg (by omega)
    obtain ⟨-, e1⟩ := ff_step h6
    rw [show i - k = (i - (k + 1)) + 1 by omega] at he
    refine xgoal [(5, [0, 2, 3, 4])] 100 ok_Sea_factorAt ?_
    refine pk_le i k (fun z => absurd z (by omega)) (fun _ => ?_)
    refine xci (sp_Sea_firstFactor hs hb hn h64 hG hg (by omega) h6) ?_
    refine xci (sp_Sea_without hs hn h6 (hG _ h6) hg) ?_
    have ih := ih _ (wo_PM (hG _ h6) hg) (by omega) he
    rw [← nI_1 k] at ih
    exact ih
