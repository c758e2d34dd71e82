/-! PRODUCTS of two permutations, and a third one: generated, reach, factor -/
theorem bit_1 : ∀ r, r < 6 → (1 / 2 ^ r % 2 = 1 ↔ r = 0) := by decide
theorem bit_3 : ∀ r, r < 6 → (3 / 2 ^ r % 2 = 1 ↔ r = 0 ∨ r = 1) := by decide
theorem bit_7 : ∀ r, r < 6 → (7 / 2 ^ r % 2 = 1 ↔ r = 0 ∨ r = 1 ∨ r = 2) := by decide
def upF (F : Nat → Nat → Nat) (r : Nat) (f : Nat → Nat) : Nat → Nat → Nat := fun q => if q = r then f else F q
theorem upF_at {F : Nat → Nat → Nat} {r : Nat} {f : Nat → Nat} : upF F r f r = f := if_pos rfl
theorem upF_ne {F : Nat → Nat → Nat} {r q : Nat} {f : Nat → Nat} (h : q ≠ r) : upF F r f q = F q := if_neg h
theorem upF_PM {n r : Nat} {F : Nat → Nat → Nat} {f : Nat → Nat} (hF : ∀ q, q < 6 → PM n (F q)) (hf : PM n f) : ∀ q, q < 6 → PM n (upF F r f q) := fun q hq => by
  unfold upF
  split
  · exact hf
  · exact hF q hq
theorem bin_ne {jj n set x D : Nat} {G G' : Nat → Nat → Nat} (hs : ¬ set / 2 ^ jj % 2 = 1) (h : ∀ q, q ≠ jj → G' q = G q) (s : Bs) : ∀ r, bin n set G' x D r s = bin n set G x D r s
  | 0 => rfl
  | r + 1 => by
    unfold bin
    rw [bin_ne hs h s r]
    by_cases c : set / 2 ^ r % 2 = 1
    · rw [if_pos c, if_pos c, h r (fun e => hs (e ▸ c))]
    · rw [if_neg c, if_neg c]
theorem bou_ne {jj n set : Nat} {G G' : Nat → Nat → Nat} (hs : ¬ set / 2 ^ jj % 2 = 1) (h : ∀ q, q ≠ jj → G' q = G q) : ∀ z k s, bou n set G' z k s = bou n set G z k s
  | 0, _, _ => rfl
  | z + 1, k, s => by
    unfold bou
    rw [bin_ne hs h, bou_ne hs h z]
theorem bfs_ne {jj n set : Nat} {G G' : Nat → Nat → Nat} (hs : ¬ set / 2 ^ jj % 2 = 1) (h : ∀ q, q ≠ jj → G' q = G q) : bfs n set G' = bfs n set G := bou_ne hs h _ _ _
theorem ff_ne {jj n set : Nat} {G G' : Nat → Nat → Nat} {s : Bs} {f : Nat → Nat} (hs : ¬ set / 2 ^ jj % 2 = 1) (h : ∀ q, q ≠ jj → G' q = G q) : ff n set G' s f = ff n set G s f := sr_congr (fun r _ _ => by
  unfold ffb
  refine decide_eq_decide.mpr ?_
  by_cases c : set / 2 ^ r % 2 = 1
  · rw [h r (fun e => hs (e ▸ c))]
  · exact ⟨fun z => absurd z.1 c, fun z => absurd z.1 c⟩)
theorem ff_nj {jj n set : Nat} {G : Nat → Nat → Nat} {s : Bs} {f : Nat → Nat} (h6 : jj < 6) (hs : ¬ set / 2 ^ jj % 2 = 1) : ff n set G s f ≠ jj := fun e => by
  have := ff_step (n := n) (set := set) (G := G) (s := s) (f := f) (by omega)
  rw [e] at this
  exact hs this.1
theorem fac_ne {jj n set : Nat} {G G' : Nat → Nat → Nat} {s : Bs} (h6 : jj < 6) (hs : ¬ set / 2 ^ jj % 2 = 1) (h : ∀ q, q ≠ jj → G' q = G q) : ∀ i f, fac n set G' s i f = fac n set G s i f
  | 0, _ => ff_ne hs h
  | i + 1, f => by
    unfold fac
    rw [fac_ne h6 hs h i, ff_ne hs h, h _ (ff_nj h6 hs)]
/-! a third permutation among the products of two, or not -/
theorem bd_bc {n set x : Nat} {G : Nat → Nat → Nat} : bd (bfs n set G) x ≤ bc (bfs n set G) := (bfs_CI n set G).1.2.2.2 x
theorem gen_more {n : Nat} {G : Nat → Nat → Nat} (hG : ∀ r, r < 6 → PM n (G r)) (h : bd (bfs n 3 G) (rank n (G 2)) = 0) : bc (bfs n 3 G) < bc (bfs n 7 G) := by
  rw [bc_ct, bc_ct]
  refine ct_lt (fun x _ hx => ?_) ⟨rank n (G 2), rank_lt n _, (Kb_iff hG).mpr ⟨[2], fun r hr => ?_, rfl⟩, fun z => of_decide_eq_true z h⟩
  · obtain ⟨w, hw, e⟩ := (Kb_iff hG).mp hx
    refine (Kb_iff hG).mpr ⟨w, okw_in (fun r hr hb => (bit_7 r hr).mpr ?_) hw, e⟩
    have := (bit_3 r hr).mp hb
    omega
  · rw [List.mem_singleton.mp hr]
    decide
theorem gen_sub {n : Nat} {G : Nat → Nat → Nat} {w2 : List Nat} (hG : ∀ r, r < 6 → PM n (G r)) (h2 : okw 3 w2) (e2 : ∀ i, i < n → G 2 i = pw G w2 i) : ∀ w : List Nat, okw 7 w → ∃ v, okw 3 v ∧ ∀ i, i < n → pw G w i = pw G v i
  | [], _ => ⟨[], fun r hr => absurd hr List.not_mem_nil, fun _ _ => rfl⟩
  | r :: w, h => by
    obtain ⟨v, h3, h4⟩ := gen_sub hG h2 e2 w (fun q hq => h q (List.mem_cons_of_mem _ hq))
    obtain ⟨r1, r2⟩ := h r List.mem_cons_self
    have hb := (bit_7 r r1).mp r2
    by_cases c : r = 2
    · subst c
      refine ⟨w2 ++ v, okw_app h2 h3, fun i hi => ?_⟩
      rw [pw_app, ← e2 i hi]
      exact h4 _ ((hG 2 r1).1 i hi)
    · refine ⟨r :: v, fun q hq => ?_, fun i hi => h4 _ ((hG r r1).1 i hi)⟩
      rcases List.mem_cons.mp hq with e | e
      · rw [e]; exact ⟨r1, (bit_3 r r1).mpr (by omega)⟩
      · exact h3 q e
theorem gen_same {n : Nat} {G : Nat → Nat → Nat} (hG : ∀ r, r < 6 → PM n (G r)) (h : bd (bfs n 3 G) (rank n (G 2)) ≠ 0) : bc (bfs n 7 G) = bc (bfs n 3 G) := by
  rw [bc_ct, bc_ct]
  obtain ⟨w2, h2, e2⟩ := (Kb_iff (n := n) (set := 3) hG).mp (decide_eq_true h)
  have e2 := rank_inj (hG 2 (by omega)) (pw_PM hG h2) e2
  refine ct_congr (fun x _ => Bool.eq_iff_iff.mpr ((Kb_iff hG).trans (Iff.trans ?_ (Kb_iff hG).symm)))
  constructor
  · rintro ⟨w, hw, e⟩
    obtain ⟨v, h3, h4⟩ := gen_sub hG h2 e2 w hw
    exact ⟨v, h3, e.trans (rank_congr h4)⟩
  · rintro ⟨w, hw, e⟩
    refine ⟨w, okw_in (fun r hr hb => (bit_7 r hr).mpr ?_) hw, e⟩
    have := (bit_3 r hr).mp hb
    omega
/-! the factors -/
/-- what is left behind some factors -/
def rm_ (n set : Nat) (G : Nat → Nat → Nat) (s : Bs) : Nat → (Nat → Nat) → Nat → Nat
  | 0, f => f
  | i + 1, f => rm_ n set G s i (wo n (G (ff n set G s f)) f)
theorem fac_rm {n set : Nat} {G : Nat → Nat → Nat} {s : Bs} : ∀ i f, fac n set G s i f = ff n set G s (rm_ n set G s i f)
  | 0, _ => rfl
  | i + 1, f => fac_rm i (wo n (G (ff n set G s f)) f)
theorem rm_s {n set : Nat} {G : Nat → Nat → Nat} {s : Bs} : ∀ i f, rm_ n set G s (i + 1) f = wo n (G (ff n set G s (rm_ n set G s i f))) (rm_ n set G s i f)
  | 0, _ => rfl
  | i + 1, f => rm_s i (wo n (G (ff n set G s f)) f)
/-- a product E of the first i factors, and what is left -/
def FI (n set : Nat) (G : Nat → Nat → Nat) (f E : Nat → Nat) (i : Nat) : Prop :=
  PM n E ∧ PM n (rm_ n set G (bfs n set G) i f) ∧ bd (bfs n set G) (rank n (rm_ n set G (bfs n set G) i f)) + i = bd (bfs n set G) (rank n f) ∧ ∀ j, j < n → E (rm_ n set G (bfs n set G) i f j) = f j
theorem FI_0 {n set : Nat} {G : Nat → Nat → Nat} {f E : Nat → Nat} (hf : PM n f) (hE : ∀ j, j < n → E j = j) : FI n set G f E 0 :=
  ⟨⟨fun i hi => by rw [hE i hi]; exact hi, fun i j hi hj e => by rw [hE i hi, hE j hj] at e; exact e⟩, hf, rfl, fun j hj => hE _ (hf.1 j hj)⟩
theorem FI_s {n set i : Nat} {G : Nat → Nat → Nat} {f E : Nat → Nat} (hG : ∀ r, r < 6 → PM n (G r)) (h : FI n set G f E i) (hi : i + 2 ≤ bd (bfs n set G) (rank n f)) :
    fac n set G (bfs n set G) i f < 6 ∧ set / 2 ^ fac n set G (bfs n set G) i f % 2 = 1 ∧ FI n set G f (fun j => E (G (fac n set G (bfs n set G) i f) j)) (i + 1) := by
  obtain ⟨hE, hr, hb, he⟩ := h
  have h6 := bfs_C (set := set) hG hr (by omega)
  have hs := ff_step h6
  rw [fac_rm]
  have hg := hG _ h6
  refine ⟨h6, hs.1, PM_comp hE hg, ?_, ?_, fun j hj => ?_⟩
  · rw [rm_s]; exact wo_PM hg hr
  · rw [rm_s]
    have := hs.2
    omega
  · rw [rm_s]
    show E (G _ (inv n (G _) (rm_ n set G (bfs n set G) i f j))) = f j
    rw [(get_inv hg (hr.1 j hj)).2]
    exact he j hj
theorem FI_e {n set i : Nat} {G : Nat → Nat → Nat} {f E : Nat → Nat} (h : FI n set G f E i) (hi : i + 1 = bd (bfs n set G) (rank n f)) : rank n E = rank n f := by
  obtain ⟨hE, hr, hb, he⟩ := h
  have h0 := (bfs_CI n set G).2.1.2.1 _ (show bd (bfs n set G) (rank n (rm_ n set G (bfs n set G) i f)) = 1 by omega)
  have hid := rank_inj hr (PM_id n) (h0.trans (rank_id n).symm)
  refine rank_congr (fun j hj => ?_)
  rw [← he j hj, hid j hj]
