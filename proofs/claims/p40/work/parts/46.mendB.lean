/-! THE LAW: mends, from its start to its middle */ -/
theorem sp_Law_cell' {h : xHp} {k : Nat} {x : Int32} (hx : x = nI k) (hk : k < 1000) : SpecR g_Law_cell [.retAddr 0, .int x] h (fun v h' => (∃ c : Nat, v = some (.int (nI c)) ∧ c < 2147483648) ∧ h' = h) := by
  subst hx
  exact sp_Law_cell hk
theorem cl_bestv {to : Nat} {ZZ : Prop} {h0 h : xHp} {A n : Nat} {ω : Wv} {S : Nat → Nat} {F : Nat → Nat → Nat} {P : Pv} {K : Int32 → xHp → Prop} (w : isT h A ω) (k : wok ω) (fr : frm h0 h A (A + 84)) (e : ω.1 = (n, S, F, P)) (ht : to < 6) (hp0 : pc P ≠ 0) (hnl : nol P) (p : ∀ h' ω', isT h' A ω' → wok ω' → ω'.1 = (n, S, upF F to (unr n (bst (mk n P) (fct n)).2), P) → frm h0 h' A (A + 84) → K (nI (cn n (unr n (bst (mk n P) (fct n)).2) P)) h') : (∃ P : Option Value → xHp → Prop, SpecR g_TV_best [.ref A, .int (nI to)] h P ∧ ∀ (v : Int32) (h' : xHp), P (some (.int v)) h' → K v h') ∨ ZZ := by
  obtain ⟨-, hn7, -, hk⟩ := wk_s k e
  exact cl_best w k fr e ht hp0 (bst_ok hn7 hk hnl).1 (by rw [cn_I (cst_n0 hn7 hk (unr_PM n _) hnl)]; exact p)
set_option maxRecDepth 100000 in
theorem st_239 {lim : Nat × Nat} {Q : Option Value → xHp → Prop} {A n m c0 s0 : Nat} {S : Nat → Nat} {F : Nat → Nat → Nat} {P : Pv} {h1 : xHp} {ω : Wv}
    (hQ : mQ A n c0 s0 Q) (w : isT h1 A ω) (k : wok ω) (e : ω.1 = (n, S, F, P)) (z1 : h1.1 + 1 = c0) (z2 : h1.2.1 + 56 = s0) (l1 : c0 ≤ lim.1) (l2 : s0 ≤ lim.2) (hA : A + 84 ≤ h1.1) (hnl : nol P) (hm : pc P = m) (hm1 : 1 ≤ m) :
    xAt lim g_Law_mends Q 239 [(0, .ref A), (1, .int (nI n)), (2, .retAddr 0), (3, .int (nI m)), (4, .int (nI 1)), (6, .int (nI (cn n (F 0) P)))] [] h1 := by
  obtain ⟨hn2, hn7, hF, hkP⟩ := wk_s k e
  have hp0 : pc P ≠ 0 := by omega
  obtain ⟨b1, b2, b3, b4⟩ := bst_ok hn7 hkP hnl
  have hc0 := cst_n0 hn7 hkP (hF 0 (by omega)) hnl
  have hc1 := cst_n0 hn7 hkP (hF 1 (by omega)) hnl
  have hcu := cst_n0 hn7 hkP (unr_PM n (bst (mk n P) (fct n)).2) hnl
  have k0 := cn_b hn7 hkP hc0
  have k1 := cn_b hn7 hkP hc1
  have ku := cn_b hn7 hkP hcu
  have g0 := b3 _ (hF 0 (by omega))
  have g1 := b3 _ (hF 1 (by omega))
  have g2 := b4 _ (hF 0 (by omega))
  refine xgoal [(246, [0, 1, 2, 3, 4, 6, 7])] 600 ok_Law_mends ?_
  refine cl_bestv (to := 4) w k frm_rf e (by omega) hp0 hnl (fun h2 ω w k e fr => ?_)
  generalize hu : unr n (bst (mk n P) (fct n)).2 = u at *
  show xAt lim g_Law_mends Q 246 [(0, .ref A), (1, .int (nI n)), (2, .retAddr 0), (3, .int (nI m)), (4, .int (nI 1)), (6, .int (nI (cn n (F 0) P))), (7, .int (nI (cn n u P)))] [] h2
  have k305 : ∀ h3, isT h3 A ω → frm h1 h3 A (A + 84) → xAt lim g_Law_mends Q 305 [(0, .ref A), (1, .int (nI n)), (2, .retAddr 0), (3, .int (nI m)), (6, .int (nI (cn n (F 0) P))), (7, .int (nI (cn n u P)))] [] h3 := fun h3 w fr => by
    refine xgoal [(312, [0, 1, 2, 3, 4, 6, 7])] 600 ok_Law_mends ?_
    exact st_312 hQ w k e (by rw [fr.1]; exact z1) (by rw [fr.2.1]; exact z2) l1 l2 (by rw [fr.1]; exact hA) hnl hm hm1
  refine xgoal [(305, [0, 1, 2, 3, 6, 7])] 600 ok_Law_mends ?_
  refine br_f (by decide) ?_
  refine br_f (n_nn (by omega)) ?_
  refine br_f (nI_nlt g0 (by omega)) ?_
  refine cl_costv (r := 1) w k fr e (by omega) hp0 hc1 (fun h2 w fr => ?_)
  refine br_f (nI_nlt (b := cn n u P) (a := cn n (F 1) P) g1 (by omega)) ?_
  refine cl_costv (r := 4) w k fr e (by omega) hp0 hcu (fun h2 w fr => ?_)
  refine br_t rfl ?_
  by_cases c : cn n u P < cn n (F 0) P
  · refine br_t (nI_lt c (by omega)) ?_
    exact k305 h2 w fr
  · refine br_f (nI_nlt (by omega) (by omega)) ?_
    refine cl_turn (r := 4) (q := 0) w k fr e (by omega) (by omega) (fun h2 w fr => ?_)
    refine cl_turn (r := 0) (q := 0) w k fr e (by omega) (by omega) (fun h2 w fr => ?_)
    refine br_f (nI_nlt (b := rank n u) (a := rank n (F 0)) (g2 c) (Nat.lt_trans (rk_b hn7 _) (by decide))) ?_
    exact k305 h2 w fr
set_option maxRecDepth 100000 in
theorem st_181 {lim : Nat × Nat} {Q : Option Value → xHp → Prop} {A n m sp c0 s0 : Nat} {S : Nat → Nat} {F : Nat → Nat → Nat} {P : Pv} {h1 : xHp} {ω : Wv}
    (hQ : mQ A n c0 s0 Q) (w : isT h1 A ω) (k : wok ω) (e : ω.1 = (n, S, F, P)) (z1 : h1.1 + 1 = c0) (z2 : h1.2.1 + 56 = s0) (l1 : c0 ≤ lim.1) (l2 : s0 ≤ lim.2) (hA : A + 84 ≤ h1.1) (hnl : nol P) (hm : pc P = m) (hm1 : 1 ≤ m) (hsp : sp < 6) (hd : df2 n (F 0) P (fun i => i) ≤ sp) :
    xAt lim g_Law_mends Q 181 [(0, .ref A), (1, .int (nI n)), (2, .retAddr 0), (3, .int (nI m)), (4, .int (nI 1)), (5, .int (nI sp))] [] h1 := by
  obtain ⟨hn2, hn7, hF, hkP⟩ := wk_s k e
  have hf := hF 0 (by omega)
  have hp0 : pc P ≠ 0 := by omega
  have hc0 := cst_n0 hn7 hkP hf hnl
  have k0 := cn_b hn7 hkP hc0
  have hle := (cn_le hn7 hkP hf (PM_id n) (nol_okx hnl)).2
  have hfl := cn_flw hn7 hkP hf (by omega) hnl
  refine xgoal [(188, [0, 1, 2, 3, 4, 5, 6])] 600 ok_Law_mends ?_
  refine cl_costv (r := 0) w k frm_rf e (by omega) hp0 hc0 (fun h2 w fr => ?_)
  show xAt lim g_Law_mends Q 188 [(0, .ref A), (1, .int (nI n)), (2, .retAddr 0), (3, .int (nI m)), (4, .int (nI 1)), (5, .int (nI sp)), (6, .int (nI (cn n (F 0) P)))] [] h2
  refine xgoal [(239, [0, 1, 2, 3, 4, 6])] 600 ok_Law_mends ?_
  refine br_f (by decide) ?_
  refine br_f (n_nn (by omega)) ?_
  refine br_f (nI_nlt (by omega) (by omega)) ?_
  by_cases c : cn n (F 0) P = 0
  · refine br_t (congrArg nI c) ?_
    refine cl_follows (r := 0) w k fr e (by omega) (fun h2 w fr => ?_)
    refine br_t (congrArg nI (fl_1 (hfl.mp c))) ?_
    refine br_t rfl ?_
    exact st_239 hQ w k e (by rw [fr.1]; exact z1) (by rw [fr.2.1]; exact z2) l1 l2 (by rw [fr.1]; exact hA) hnl hm hm1
  · refine br_f (n_ne c (by omega) (by omega)) ?_
    refine cl_follows (r := 0) w k fr e (by omega) (fun h2 w fr => ?_)
    refine br_f (by rw [fl_0 (fun y => c (hfl.mpr y))]; decide) ?_
    refine br_t rfl ?_
    exact st_239 hQ w k e (by rw [fr.1]; exact z1) (by rw [fr.2.1]; exact z2) l1 l2 (by rw [fr.1]; exact hA) hnl hm hm1
theorem nol_put {s i x : Nat} {P : Pv} (h : nol P) : nol (pput P s i x) := h
set_option maxRecDepth 100000 in
theorem st_118 {lim : Nat × Nat} {Q : Option Value → xHp → Prop} {A n m sp c0 s0 : Nat} {S : Nat → Nat} {F : Nat → Nat → Nat} {P : Pv} {h1 : xHp} {ω : Wv}
    (hQ : mQ A n c0 s0 Q) (w : isT h1 A ω) (k : wok ω) (e : ω.1 = (n, S, F, P)) (z1 : h1.1 + 1 = c0) (z2 : h1.2.1 + 56 = s0) (l1 : c0 ≤ lim.1) (l2 : s0 ≤ lim.2) (hA : A + 84 ≤ h1.1) (hnl : nol P) (hm : pc P = m) (hm1 : 1 ≤ m) (hsp : sp < 6) (hd : df2 n (F 0) P (fun i => i) = 0) :
    xAt lim g_Law_mends Q 118 [(0, .ref A), (1, .int (nI n)), (2, .retAddr 0), (3, .int (nI m)), (4, .int (nI 1)), (5, .int (nI sp))] [] h1 := by
  obtain ⟨hn2, hn7, hF, hkP⟩ := wk_s k e
  have hm8 : m ≤ 8 := by rw [← hm]; exact hkP.1
  have hnn : ¬ nI n = 0 := n_ne_0 (by omega) (by omega)
  have hmm : ¬ nI m = 0 := n_ne_0 (by omega) (by omega)
  refine xgoal [(121, [0, 1, 2, 3, 4, 5, 6])] 600 ok_Law_mends ?_
  refine up_loop (P := fun kk => ∀ (h2 : xHp) (ω : Wv) (P' : Pv), isT h2 A ω → wok ω → ω.1 = (n, S, F, P') → h2.1 + 1 = c0 → h2.2.1 + 56 = s0 → A + 84 ≤ h2.1 → nol P' → pc P' = m → df2 n (F 0) P' (fun i => i) ≤ kk → xAt lim g_Law_mends Q 121 [(0, .ref A), (1, .int (nI n)), (2, .retAddr 0), (3, .int (nI m)), (4, .int (nI 1)), (5, .int (nI sp)), (6, .int (nI kk))] [] h2) sp ?_ (fun kk hkk ih => ?_) 0 (Nat.zero_le _) h1 ω P w k e z1 z2 hA hnl hm (Nat.le_of_eq hd)
  · intro h2 ω P' w k e z1 z2 hA hnl hm hd
    refine xgoal [(181, [0, 1, 2, 3, 4, 5])] 600 ok_Law_mends ?_
    refine br_t (nI_le (Nat.le_refl _) (by omega)) ?_
    exact st_181 hQ w k e z1 z2 l1 l2 hA hnl hm hm1 hsp hd
  · intro h2 ω P' w k e z1 z2 hA hnl hm hd
    refine xgoal [(144, [0, 1, 2, 3, 4, 5, 6, 7])] 600 ok_Law_mends ?_
    refine br_f (n_nle hkk (by omega)) ?_
    refine br_f (by decide) ?_
    refine xri (sp_Law_cell' (k := 6 + kk) (nI_add 6 kk) (by omega)) (fun v h3 z => ?_)
    obtain ⟨⟨c, hv, hc⟩, rfl⟩ := z
    cases hv
    show xAt lim g_Law_mends Q 144 [(0, .ref A), (1, .int (nI n)), (2, .retAddr 0), (3, .int (nI m)), (4, .int (nI 1)), (5, .int (nI sp)), (6, .int (nI kk)), (7, .int (nI c))] [] h3
    refine xgoal [(121, [0, 1, 2, 3, 4, 5, 6])] 600 ok_Law_mends ?_
    refine And.intro hmm ?_
    refine And.intro hnn ?_
    refine And.intro hnn ?_
    have hi : c / 2 ^ 3 % n < n := Nat.mod_lt _ (by omega)
    have hx : c / 2 ^ 6 % n < n := Nat.mod_lt _ (by omega)
    have hs : c % m < pc P' := by rw [hm]; exact Nat.mod_lt _ (by omega)
    have hk' := (wk_s k e).2.2.2
    have hv := hk'.2.1 _ hs _ hi
    refine cl_put' (s := c % m) (i := c / 2 ^ 3 % n) (x := c / 2 ^ 6 % n) w k frm_rf e hs hi hx (pk_rem hc (by omega) (by omega)) (by rw [n_shr hc (by omega), pk_rem (Nat.lt_of_le_of_lt (Nat.div_le_self _ _) hc) (by omega) (by omega)]) (by rw [n_shr hc (by omega), pk_rem (Nat.lt_of_le_of_lt (Nat.div_le_self _ _) hc) (by omega) (by omega)]) (fun h4 ω w k e fr => ?_)
    refine br_f (n_nn (by omega)) ?_
    have ih := ih h4 ω _ w k e (by rw [fr.1]; exact z1) (by rw [fr.2.1]; exact z2) (by rw [fr.1]; exact hA) (nol_put hnl) hm (Nat.le_trans df_put (by omega))
    rw [← nI_1 kk] at ih
    exact ih
set_option maxRecDepth 100000 in
theorem st_50 {lim : Nat × Nat} {Q : Option Value → xHp → Prop} {A n m c0 s0 : Nat} {S : Nat → Nat} {F : Nat → Nat → Nat} {P : Pv} {h1 : xHp} {ω : Wv}
    (hQ : mQ A n c0 s0 Q) (w : isT h1 A ω) (k : wok ω) (e : ω.1 = (n, S, F, P)) (z1 : h1.1 + 1 = c0) (z2 : h1.2.1 + 56 = s0) (l1 : c0 ≤ lim.1) (l2 : s0 ≤ lim.2) (hA : A + 84 ≤ h1.1) (hb : bld n (F 0) m P) (hm1 : 1 ≤ m) :
    xAt lim g_Law_mends Q 50 [(0, .ref A), (1, .int (nI n)), (2, .retAddr 0), (3, .int (nI m))] [] h1 := by
  obtain ⟨hn2, hn7, hF, hkP⟩ := wk_s k e
  have hf := hF 0 (by omega)
  have hm := hb.1
  have hm8 : m ≤ 8 := by rw [← hm]; exact hkP.1
  have hp0 : pc P ≠ 0 := by omega
  obtain ⟨y1, y2⟩ := cn_0 hn7 hkP hf (PM_id n) (bld_id hb)
  have k91 : ∀ (h2 : xHp) (ω : Wv) (F' : Nat → Nat → Nat), isT h2 A ω → wok ω → ω.1 = (n, S, F', P) → F' 0 = F 0 → frm h1 h2 A (A + 84) → xAt lim g_Law_mends Q 91 [(0, .ref A), (1, .int (nI n)), (2, .retAddr 0), (3, .int (nI m))] [] h2 := fun h2 ω F' w k e e0 fr => by
    refine xgoal [(108, [0, 1, 2, 3, 4])] 600 ok_Law_mends ?_
    refine cl_add_bad w k fr e (fun h2 w fr => ?_)
    refine br_t rfl ?_
    show xAt lim g_Law_mends Q 108 [(0, .ref A), (1, .int (nI n)), (2, .retAddr 0), (3, .int (nI m)), (4, .int (nI 1))] [] h2
    refine xgoal [(118, [0, 1, 2, 3, 4, 5])] 600 ok_Law_mends ?_
    refine xri (sp_Law_cell (k := 5) (by omega)) (fun v h3 z => ?_)
    obtain ⟨⟨c, hv, hc⟩, rfl⟩ := z
    cases hv
    refine And.intro (by decide) ?_
    have eq : nI c - nI c / nI 6 * nI 6 = nI (c % 6) := pk_rem hc (by omega) (by omega)
    have k118 := st_118 (lim := lim) (sp := c % 6) hQ w k e (by rw [fr.1]; exact z1) (by rw [fr.2.1]; exact z2) l1 l2 (by rw [fr.1]; exact hA) hb.2.2 hm hm1 (Nat.mod_lt _ (by omega)) (by rw [e0]; exact df_0.mpr (bld_id hb))
    rw [← eq] at k118
    exact k118
  refine xgoal [(91, [0, 1, 2, 3])] 600 ok_Law_mends ?_
  refine cl_follows (r := 0) w k frm_rf e (by omega) (fun h2 w fr => ?_)
  refine br_t (congrArg nI (fl_1 ((flw_ex hkP hf (by omega)).mpr ⟨_, PM_id n, bld_id hb⟩))) ?_
  refine cl_costv (r := 0) w k fr e (by omega) hp0 y1 (fun h2 w fr => ?_)
  refine br_t (congrArg nI y2) ?_
  by_cases c : 1 < m
  · obtain ⟨t1, t2⟩ := bld_tb hkP hf hb c
    refine cl_common_y (to := 5) w k fr e (by omega) t1 (fun h2 ω w k e fr => ?_)
    refine br_f (n_nle c (by omega)) ?_
    refine cl_turn (r := 0) (q := 0) w k fr e (by omega) (by omega) (fun h2 w fr => ?_)
    refine br_t (congrArg nI t2) ?_
    exact k91 h2 ω _ w k e rfl fr
  · have t1 : ¬ tbh n P 0 = true := fun z => by
      unfold tbh at z
      rw [Bool.and_eq_true, decide_eq_true_eq] at z
      omega
    refine cl_common_n (to := 5) w k fr e (by omega) t1 (fun h2 ω w k e fr => ?_)
    refine br_t (nI_le (by omega) (by omega)) ?_
    refine br_t rfl ?_
    exact k91 h2 ω _ w k e rfl fr
set_option maxRecDepth 100000 in
theorem sp_Law_mends {h : xHp} {A n : Nat} {ω : Wv} {S : Nat → Nat} {F : Nat → Nat → Nat} {P : Pv} (w : isT h A ω) (k : wok ω) (e : ω.1 = (n, S, F, P)) (h0 : pc P = 0) (hA : A + 84 ≤ h.1) :
    SpecN g_Law_mends [.ref A, .int (nI n), .retAddr 0] h 1 56 (fun v h' => v = some (.int (nI 1)) ∧ h'.1 = h.1 + 1 ∧ h'.2.1 = h.2.1 + 56 ∧ ∃ ω', isT h' A ω' ∧ wok ω' ∧ ω'.1.1 = n) := by
  refine SpecN.of 1 56 (by decide +kernel) (Nat.le_of_ble_eq_true rfl) (fun c hc => by cases hc) (fun v h' z => ⟨⟨_, z.1⟩, z.2.1, z.2.2.1⟩) (fun Q hQ0 => ?_)
  have hQ : mQ A n (h.1 + 1) (h.2.1 + 56) Q := fun h' ω' w k e z1 z2 => hQ0 _ _ ⟨rfl, z1, z2, ω', w, k, e⟩
  clear hQ0
  refine xgoal [(11, [0, 1, 2, 3])] 600 ok_Law_mends ?_
  refine xri (sp_Law_cell (k := 4) (by omega)) (fun v h3 z => ?_)
  obtain ⟨⟨c, hv, hc⟩, rfl⟩ := z
  cases hv
  refine And.intro (by decide) ?_
  have eq : nI 1 + (nI c - nI c / nI 8 * nI 8) = nI (1 + c % 8) := by rw [n_mod8 hc, nI_add]
  have k10 : xAt (h3.1 + 1, h3.2.1 + 56) g_Law_mends Q 11 [(0, .ref A), (1, .int (nI n)), (2, .retAddr 0), (3, .int (nI (1 + c % 8)))] [] h3 := by
    have hm1 : 1 ≤ 1 + c % 8 := by omega
    have hm8 : 1 + c % 8 ≤ 8 := by omega
    clear eq
    generalize 1 + c % 8 = m at *
    refine xgoal [(14, [0, 1, 2, 3, 4])] 600 ok_Law_mends ?_
    refine up_loop (P := fun kk => ∀ (h2 : xHp) (ω : Wv) (P' : Pv), isT h2 A ω → wok ω → ω.1 = (n, S, F, P') → h2.1 + 1 = h3.1 + 1 → h2.2.1 + 56 = h3.2.1 + 56 → A + 84 ≤ h2.1 → bld n (F 0) kk P' → xAt (h3.1 + 1, h3.2.1 + 56) g_Law_mends Q 14 [(0, .ref A), (1, .int (nI n)), (2, .retAddr 0), (3, .int (nI m)), (4, .int (nI kk))] [] h2) m ?_ (fun kk hkk ih => ?_) 0 (Nat.zero_le _) h3 ω P w k e rfl rfl hA ⟨h0, fun t ht => absurd ht (Nat.not_lt_zero t), fun t ht => absurd ht (by rw [h0]; exact Nat.not_lt_zero t)⟩
    · intro h2 ω P' w k e z1 z2 hA hb
      refine xgoal [(50, [0, 1, 2, 3])] 600 ok_Law_mends ?_
      refine br_t (nI_le (Nat.le_refl _) (by omega)) ?_
      exact st_50 hQ w k e z1 z2 (Nat.le_refl _) (Nat.le_refl _) hA hb hm1
    · intro h2 ω P' w k e z1 z2 hA hb
      refine xgoal [(14, [0, 1, 2, 3, 4])] 600 ok_Law_mends ?_
      refine br_f (n_nle hkk (by omega)) ?_
      have hF := (wk_s k e).2.2.1
      refine cl_add (r := 0) w k frm_rf e (by omega) (by rw [hb.1]; omega) (fun h4 ω w k e fr => ?_)
      refine br_t (by rw [nI_add, hb.1]) ?_
      have hb2 := bld_s hb
      refine cl_proper (s := kk) w k fr e (by rw [hb2.1]; omega) (fun h4 w fr => ?_)
      refine br_t (by rw [if_pos (bld_prop (hF 0 (by omega)) hb2 (by omega))]) ?_
      have ih := ih h4 ω _ w k e (by rw [fr.1]; exact z1) (by rw [fr.2.1]; exact z2) (by rw [fr.1]; exact hA) hb2
      rw [← nI_1 kk] at ih
      exact ih
  rw [← eq] at k10
  exact k10
