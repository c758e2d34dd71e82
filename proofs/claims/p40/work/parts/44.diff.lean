/-! THE LAW: how many places differ */ -/
theorem n_ix2 {n t j : Nat} : nI n * nI t + nI j = nI (n * t + j) := by rw [n_mul, nI_add]
theorem sp_Law_differences {h : xHp} {A B n : Nat} {ω : Wv} {S : Nat → Nat} {F : Nat → Nat → Nat} {P : Pv} {f : Nat → Int32} {W : Nat → Nat → Nat} (w : isT h A ω) (k : wok ω) (e : ω.1 = (n, S, F, P)) (ha : xat h B (xia 56 f)) (hB : A + 84 ≤ B) (hf : ∀ t, t < pc P → ∀ j, j < n → f (n * t + j) = nI (W t j)) (hW : ∀ t, t < pc P → ∀ j, j < n → W t j < n) :
    SpecR g_Law_differences [.ref A, .int (nI n), .ref B] h (fun v h' => v = some (.int (nI (sumN (fun t => ct (fun j => !decide (pst P t j = W t j)) n) (pc P)))) ∧ isT h' A ω ∧ frm h h' A (A + 84)) := by
  refine SpecR.of (by decide +kernel) (Nat.le_of_ble_eq_true rfl) (fun c hc => by cases hc) (fun v h' z => ⟨⟨_, z.1⟩, z.2.2.1, z.2.2.2.1⟩) (fun Q hQ => ?_)
  obtain ⟨hn2, hn7, -, hk⟩ := wk_s k e
  have hp8 := hk.1
  have hsz : n * pc P ≤ 56 := Nat.mul_le_mul hn7 hp8
  refine xgoal [(5, [0, 1, 2, 3, 4])] 400 ok_Law_differences ?_
  refine up_loop (P := fun t => ∀ h1, isT h1 A ω → frm h h1 A (A + 84) → xAt (h.1, h.2.1) g_Law_differences Q 5 [(0, .ref A), (1, .int (nI n)), (2, .ref B), (3, .int (nI (sumN (fun t => ct (fun j => !decide (pst P t j = W t j)) n) t))), (4, .int (nI t))] [] h1) (pc P) ?_ (fun t ht ih => ?_) 0 (Nat.zero_le _) h w frm_rf
  · intro h1 w fr
    refine xgoal [(5, [0, 1, 2, 3, 4])] 400 ok_Law_differences ?_
    refine cl_told1 w k fr e (fun h1 w fr => ?_)
    refine br_t (nI_le (Nat.le_refl _) (by omega)) ?_
    exact hQ _ _ ⟨rfl, w, fr⟩
  · intro h1 w fr
    refine xgoal [(5, [0, 1, 2, 3, 4]), (18, [0, 1, 2, 3, 4, 5])] 400 ok_Law_differences ?_
    refine cl_told1 w k fr e (fun h1 w fr => ?_)
    refine br_f (n_nle ht (by omega)) ?_
    refine up_loop (P := fun j => ∀ h1, isT h1 A ω → frm h h1 A (A + 84) → xAt (h.1, h.2.1) g_Law_differences Q 18 [(0, .ref A), (1, .int (nI n)), (2, .ref B), (3, .int (nI (sumN (fun t => ct (fun j => !decide (pst P t j = W t j)) n) t + ct (fun j => !decide (pst P t j = W t j)) j))), (4, .int (nI t)), (5, .int (nI j))] [] h1) n ?_ (fun j hj ihj => ?_) 0 (Nat.zero_le _) h1 w fr
    · intro h1 w fr
      refine xgoal [(5, [0, 1, 2, 3, 4])] 400 ok_Law_differences ?_
      refine br_t (nI_le (Nat.le_refl _) (by omega)) ?_
      have ih := ih h1 w fr
      rw [← nI_1 t] at ih
      exact ih
    · intro h1 w fr
      refine xgoal [(18, [0, 1, 2, 3, 4, 5])] 400 ok_Law_differences ?_
      refine br_f (n_nle hj (by omega)) ?_
      refine cl_word (s := t) (i := j) w k fr e ht hj (fun h1 w fr => ?_)
      have h56 : n * t + j < 56 := by
        have : n * (t + 1) ≤ n * pc P := Nat.mul_le_mul_left n ht
        rw [Nat.mul_add, Nat.mul_one] at this
        omega
      refine xal (xat_fr ha fr (by omega)) n_ix2 h56 (by decide) ?_
      have hw1 := hW t ht j hj
      have hw2 := hk.2.1 t ht j hj
      have ihj := ihj h1 w fr
      by_cases c : pst P t j = W t j
      · refine br_t (by rw [hf t ht j hj, c]) ?_
        have e1 : nI (sumN (fun t => ct (fun j => !decide (pst P t j = W t j)) n) t + ct (fun j => !decide (pst P t j = W t j)) (j + 1)) = nI (sumN (fun t => ct (fun j => !decide (pst P t j = W t j)) n) t + ct (fun j => !decide (pst P t j = W t j)) j) + nI 0 := by
          have e0 : ct (fun j => !decide (pst P t j = W t j)) (j + 1) = ct (fun j => !decide (pst P t j = W t j)) j := by
            show ct (fun j => !decide (pst P t j = W t j)) j + (if (!decide (pst P t j = W t j)) = true then 1 else 0) = _
            rw [if_neg (by simp [c])]
            rfl
          rw [nI_add, e0]
          rfl
        rw [← nI_1 j, e1] at ihj
        exact ihj
      · refine br_f (by rw [hf t ht j hj]; exact n_ne c (by omega) (by omega)) ?_
        have e1 : nI (sumN (fun t => ct (fun j => !decide (pst P t j = W t j)) n) t + ct (fun j => !decide (pst P t j = W t j)) (j + 1)) = nI (sumN (fun t => ct (fun j => !decide (pst P t j = W t j)) n) t + ct (fun j => !decide (pst P t j = W t j)) j) + nI 1 := by
          have e0 : ct (fun j => !decide (pst P t j = W t j)) (j + 1) = ct (fun j => !decide (pst P t j = W t j)) j + 1 := by
            show ct (fun j => !decide (pst P t j = W t j)) j + (if (!decide (pst P t j = W t j)) = true then 1 else 0) = _
            rw [if_pos (by simp [c])]
          rw [nI_add, e0]
          rfl
        rw [← nI_1 j, e1] at ihj
        exact ihj
theorem cl_diff {ZZ : Prop} {h0 h : xHp} {A B n : Nat} {ω : Wv} {S : Nat → Nat} {F : Nat → Nat → Nat} {P : Pv} {f : Nat → Int32} {W : Nat → Nat → Nat} {N : Nat} {K : Int32 → xHp → Prop} (w : isT h A ω) (k : wok ω) (fr : frm h0 h A (A + 84)) (e : ω.1 = (n, S, F, P)) (ha : xat h B (xia 56 f)) (hB : A + 84 ≤ B) (hf : ∀ t, t < pc P → ∀ j, j < n → f (n * t + j) = nI (W t j)) (hW : ∀ t, t < pc P → ∀ j, j < n → W t j < n)
    (hN : sumN (fun t => ct (fun j => !decide (pst P t j = W t j)) n) (pc P) = N) (p : ∀ h', isT h' A ω → frm h0 h' A (A + 84) → K (nI N) h') : (∃ P : Option Value → xHp → Prop, SpecR g_Law_differences [.ref A, .int (nI n), .ref B] h P ∧ ∀ (v : Int32) (h' : xHp), P (some (.int v)) h' → K v h') ∨ ZZ :=
  Or.inl ⟨_, sp_Law_differences w k e ha hB hf hW, fun v' h' z => by
    obtain ⟨z1, z2, z3⟩ := z
    cases z1
    rw [hN]
    exact p h' z2 (frm_tr fr z3 (Nat.le_refl _) (Nat.le_refl _))⟩
/-! costs as numbers -/
theorem cl_costv {r : Nat} {ZZ : Prop} {h0 h : xHp} {A n : Nat} {ω : Wv} {S : Nat → Nat} {F : Nat → Nat → Nat} {P : Pv} {K : Int32 → xHp → Prop} (w : isT h A ω) (k : wok ω) (fr : frm h0 h A (A + 84)) (e : ω.1 = (n, S, F, P)) (hr : r < 6) (hp0 : pc P ≠ 0) (hc : cst n (F r) P ≠ 0) (p : ∀ h', isT h' A ω → frm h0 h' A (A + 84) → K (nI (cn n (F r) P)) h') : (∃ P : Option Value → xHp → Prop, SpecR g_TV_cost [.ref A, .int (nI r)] h P ∧ ∀ (v : Int32) (h' : xHp), P (some (.int v)) h' → K v h') ∨ ZZ :=
  cl_cost w k fr e hr hp0 (by rw [cn_I hc]; exact p)
theorem cl_mendv {r : Nat} {ZZ : Prop} {h0 h : xHp} {A n : Nat} {ω : Wv} {S : Nat → Nat} {F : Nat → Nat → Nat} {P : Pv} {K : Int32 → xHp → Prop} (w : isT h A ω) (k : wok ω) (fr : frm h0 h A (A + 84)) (e : ω.1 = (n, S, F, P)) (hr : r < 6) (hp0 : pc P ≠ 0) (hc : cst n (F r) P ≠ 0) (p : ∀ h' ω', isT h' A ω' → wok ω' → ω'.1 = (n, S, F, prew P (fro n (F r) P) (F r)) → ω'.2.1 = (ω.1 :: ω.2.1).take 8 → frm h0 h' A (A + 84) → K (nI (cn n (F r) P)) h') : (∃ P : Option Value → xHp → Prop, SpecR g_TV_mend [.ref A, .int (nI r)] h P ∧ ∀ (v : Int32) (h' : xHp), P (some (.int v)) h' → K v h') ∨ ZZ :=
  cl_mend w k fr e hr hp0 hc (by rw [cn_I hc]; exact p)
