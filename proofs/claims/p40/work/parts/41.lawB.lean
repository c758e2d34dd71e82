/-! THE LAW: powers -/
/-- the law's methods leave two registers and the poem, and answer 1 -/
def lawP (h : xHp) (A n : Nat) (S f g : Nat → Nat) (P : Pv) : Option Value → xHp → Prop := fun v h' => v = some (.int (nI 1)) ∧ frm h h' A (A + 84) ∧ ∃ ω F, isT h' A ω ∧ wok ω ∧ ω.1 = (n, S, F, P) ∧ F 0 = f ∧ F 1 = g
theorem wk_s {ω : Wv} {n : Nat} {S : Nat → Nat} {F : Nat → Nat → Nat} {P : Pv} (k : wok ω) (e : ω.1 = (n, S, F, P)) : 2 ≤ n ∧ n ≤ 7 ∧ (∀ r, r < 6 → PM n (F r)) ∧ pok n P := by
  have h := k.1
  rw [e] at h
  exact ⟨h.1, h.2.1, h.2.2.2.1, h.2.2.2.2⟩
theorem inv_comp {n i : Nat} {f g : Nat → Nat} (hf : PM n f) (hg : PM n g) (hi : i < n) : inv n g (inv n f i) = inv n (fun j => f (g j)) i := by
  have h1 := get_inv hf hi
  have h2 := get_inv hg h1.1
  have h3 := inv_get (PM_comp hf hg) h2.1
  have h4 : f (g (inv n g (inv n f i))) = i := by rw [h2.2, h1.2]
  have h3 : inv n (fun j => f (g j)) (f (g (inv n g (inv n f i)))) = inv n g (inv n f i) := h3
  rw [h4] at h3
  exact h3.symm
theorem inv_inv {n i : Nat} {f : Nat → Nat} (hf : PM n f) (hi : i < n) : inv n (inv n f) i = f i := by
  have h1 := inv_get (inv_PM hf) (hf.1 i hi)
  rw [inv_get hf hi] at h1
  exact h1
theorem rk_b {n : Nat} (hn : n ≤ 7) (f : Nat → Nat) : rank n f < 5040 := Nat.lt_of_lt_of_le (rank_lt n f) (fct_le hn)
theorem n_nn {a : Nat} (ha : a < 2147483648) : ¬ nI a < nI 0 := nI_nlt (Nat.zero_le a) (by omega)
theorem sp_Law_powers {h : xHp} {A n p q : Nat} {ω : Wv} {S : Nat → Nat} {F : Nat → Nat → Nat} {P : Pv} (w : isT h A ω) (k : wok ω) (e : ω.1 = (n, S, F, P)) (hp : rank n (F 0) = p) (hq : rank n (F 1) = q) : SpecR g_Law_powers [.ref A, .int (nI n), .int (nI p), .int (nI q)] h (lawP h A n S (F 0) (F 1) P) := by
  refine SpecR.of (by decide +kernel) (Nat.le_of_ble_eq_true rfl) (fun c hc => by cases hc) (fun v h' z => ⟨⟨_, z.1⟩, z.2.1.1, z.2.1.2.1⟩) (fun Q hQ => ?_)
  obtain ⟨hn2, hn7, hF, -⟩ := wk_s k e
  have hf := hF 0 (by omega)
  have hg := hF 1 (by omega)
  have ho1 := ord_1 n (F 0)
  have ho2 : ord n (F 0) ≤ 12 := sr_le _ 11 1
  refine xgoal [(59, [0, 2, 3, 4, 5, 6])] 400 ok_Law_powers ?_
  refine cl_turn (r := 0) (q := 1) w k frm_rf e (by omega) (by omega) (fun h1 w fr => ?_)
  refine cl_pow (a := 0) (c := ord n (F 0)) (to := 5) w k fr e (by omega) (by omega) (by omega) (fun h2 ω w k e fr => ?_)
  have hid : ∀ i, i < n → itr (F 0) (ord n (F 0)) i = i := fun i hi => itr_ord hn7 hf hi
  refine br_t (congrArg nI (rk_0 hid)) ?_
  refine cl_turn (r := 5) (q := 2) w k fr e (by omega) (by omega) (fun h1 w fr => ?_)
  refine br_t (congrArg nI (cyc_id hid)) ?_
  refine cl_turn (r := 5) (q := 3) w k fr e (by omega) (by omega) (fun h1 w fr => ?_)
  refine br_t (congrArg nI (fix_id hid)) ?_
  refine cl_gen (s := 1) w k fr e (by omega) (fun h1 w fr => ?_)
  refine br_t (congrArg nI (gen_one (r := 0) hn7 (by omega) (wk_s k e).2.2.1)) ?_
  refine up_loop (P := fun i => 1 ≤ i → ∀ (h1 : xHp) (ω : Wv) (F1 : Nat → Nat → Nat), isT h1 A ω → wok ω → frm h h1 A (A + 84) → ω.1 = (n, S, F1, P) → F1 0 = F 0 → F1 1 = F 1 → xAt (h.1, h.2.1) g_Law_powers Q 59 [(0, .ref A), (2, .int (nI p)), (3, .int (nI q)), (4, .int (nI (ord n (F 0)))), (5, .int (nI 1)), (6, .int (nI i))] [] h1) (ord n (F 0)) ?_ (fun i hi ih => ?_) 1 ho1 (Nat.le_refl 1) h1 ω _ w k fr e rfl rfl
  · intro _ h1 ω F1 w k fr e e0 e1
    rw [← e0, ← e1] at hQ
    have hf : PM n (F1 0) := by rw [e0]; exact hf
    have hg : PM n (F1 1) := by rw [e1]; exact hg
    rw [← e0] at hp
    rw [← e1] at hq
    refine xgoal [(59, [0, 2, 3, 4, 5, 6])] 400 ok_Law_powers ?_
    refine br_t (nI_le (Nat.le_refl _) (by omega)) ?_
    refine br_f (by decide) ?_
    refine cl_inv (a := 0) (to := 2) w k fr e (by omega) (by omega) (fun h2 ω w k e fr => ?_)
    refine br_f (n_nn (by have := rk_b hn7 (inv n (F1 0)); omega)) ?_
    refine cl_product (a := 0) (b := 2) (to := 5) w k fr e (by omega) (by omega) (by omega) (fun h2 ω w k e fr => ?_)
    refine br_t (congrArg nI (rk_0 (fun i hi => (get_inv hf hi).2))) ?_
    refine cl_inv (a := 1) (to := 3) w k fr e (by omega) (by omega) (fun h2 ω w k e fr => ?_)
    refine br_f (n_nn (by have := rk_b hn7 (inv n (F1 1)); exact Nat.lt_trans this (by decide))) ?_
    refine cl_product (a := 0) (b := 1) (to := 4) w k fr e (by omega) (by omega) (by omega) (fun h2 ω w k e fr => ?_)
    refine br_f (by decide) ?_
    refine cl_product (a := 3) (b := 2) (to := 5) w k fr e (by omega) (by omega) (by omega) (fun h2 ω w k e fr => ?_)
    refine cl_inv (a := 4) (to := 5) w k fr e (by omega) (by omega) (fun h2 ω w k e fr => ?_)
    refine br_t (congrArg nI (rank_congr (fun i hi => inv_comp hf hg hi))) ?_
    refine cl_inv (a := 5) (to := 5) w k fr e (by omega) (by omega) (fun h2 ω w k e fr => ?_)
    have ei : nI (rank n (inv n (inv n (fun i => F1 0 (F1 1 i))))) = nI (rank n (fun i => F1 0 (F1 1 i))) := congrArg nI (rank_congr (fun i hi => inv_inv (f := fun i => F1 0 (F1 1 i)) (PM_comp hf hg) hi))
    refine br_t ei ?_
    refine br_f (by decide) ?_
    refine cl_product (a := 0) (b := 1) (to := 5) w k fr e (by omega) (by omega) (by omega) (fun h2 ω w k e fr => ?_)
    refine br_t rfl ?_
    refine cl_turn (r := 5) (q := 5) w k fr e (by omega) (by omega) (fun h1 w fr => ?_)
    refine cl_turn (r := 0) (q := 5) w k fr e (by omega) (by omega) (fun h1 w fr => ?_)
    refine cl_turn (r := 1) (q := 5) w k fr e (by omega) (by omega) (fun h1 w fr => ?_)
    refine And.intro (by decide) ?_
    refine br_t ?_ ?_
    · have e5 := par_mul hf hg
      show nI ((n - cycs n (fun i => F1 0 (F1 1 i))) % 2) = (nI ((n - cycs n (F1 0)) % 2) + nI ((n - cycs n (F1 1)) % 2)) - (nI ((n - cycs n (F1 0)) % 2) + nI ((n - cycs n (F1 1)) % 2)) / nI 2 * nI 2
      rw [nI_add, n_mod2 (by omega), e5]
    refine br_f (by decide) ?_
    refine cl_product (a := 1) (b := 0) (to := 5) w k fr e (by omega) (by omega) (by omega) (fun h2 ω w k e fr => ?_)
    refine br_f (n_nn (Nat.lt_trans (rk_b hn7 _) (by decide))) ?_
    refine cl_turn (r := 5) (q := 6) w k fr e (by omega) (by omega) (fun h1 w fr => ?_)
    refine cl_turn (r := 4) (q := 6) w k fr e (by omega) (by omega) (fun h1 w fr => ?_)
    refine br_t (congrArg nI (ty_mul hn7 hg hf)) ?_
    refine cl_turn (r := 0) (q := 0) w k fr e (by omega) (by omega) (fun h1 w fr => ?_)
    refine br_t (congrArg nI hp) ?_
    refine cl_turn (r := 1) (q := 0) w k fr e (by omega) (by omega) (fun h1 w fr => ?_)
    refine br_t (congrArg nI hq) ?_
    exact ⟨Or.inr rfl, hQ _ _ ⟨rfl, fr, ω, _, w, k, e, rfl, rfl⟩⟩
  · intro i1 h1 ω F1 w k fr e e0 e1
    have ih := ih (by omega)
    refine xgoal [(59, [0, 2, 3, 4, 5, 6])] 400 ok_Law_powers ?_
    refine br_f (fun z => by have := (nI_leI (by omega) (by omega)).mp z; omega) ?_
    refine br_f (by decide) ?_
    refine cl_pow (a := 0) (c := i) (to := 5) w k fr e (by omega) (by omega) (by omega) (fun h2 ω w k e fr => ?_)
    refine br_f (fun z => ?_) ?_
    · have := rk_b hn7 (itr (F1 0) i)
      have z := (nI_eq (by omega) (by omega)).mp z
      rw [e0] at z
      exact pow_ne hf i1 hi z
    · rw [← nI_1 i] at ih
      exact ih h2 ω _ w k fr e e0 e1
