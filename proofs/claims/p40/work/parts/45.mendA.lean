/-! THE LAW: mends, from its end backwards */ -/
def mQ (A n c0 s0 : Nat) (Q : Option Value → xHp → Prop) : Prop := ∀ h' ω', isT h' A ω' → wok ω' → ω'.1.1 = n → h'.1 = c0 → h'.2.1 = s0 → Q (some (.int (nI 1))) h'
/-- the words of a poem in a row -/
def wds (n : Nat) (P : Pv) (f : Nat → Int32) : Prop := ∀ t, t < pc P → ∀ j, j < n → f (n * t + j) = nI (pst P t j)
theorem sum_same {n : Nat} {s : Nat → Nat → Nat} {m : Nat} : sumN (fun t => ct (fun j => !decide (s t j = s t j)) n) m = 0 := by
  have : sumN (fun t => ct (fun j => !decide (s t j = s t j)) n) m = sumN (fun _ => 0) m := sumN_congr (fun t _ => ct_none (fun j _ => by simp))
  rw [this, sumN_0]
theorem df_sym {n : Nat} {f x : Nat → Nat} {P : Pv} : sumN (fun t => ct (fun j => !decide (x (itr f t j) = pst P t j)) n) (pc P) = df2 n f P x := sumN_congr (fun t _ => ct_congr (fun j _ => by
  rw [decide_eq_decide.mpr (eq_comm (a := x (itr f t j)) (b := pst P t j))]))
theorem lk1_bit {n s i : Nat} {P : Pv} (hn : n ≤ 7) (h : nol P) (hs : s < pc P) (hi : i < n) : plk (lk1 P s i) s / 2 ^ i % 2 = 1 := by
  have e : plk (lk1 P s i) s = 0 ||| 2 ^ i := by
    show upn (plk P) s (plk P s ||| 2 ^ i) s = _
    unfold upn
    rw [if_pos rfl, h s hs]
  rw [e]
  exact (lk_1 i (by omega) i (by omega)).2.1
theorem dm_at {n m q : Nat} (hq : q < n * m) : q / n < m ∧ q % n < n ∧ n * (q / n) + q % n = q := by
  have hn : 0 < n := Nat.pos_of_ne_zero (fun z => by rw [z, Nat.zero_mul] at hq; omega)
  exact ⟨Nat.div_lt_of_lt_mul hq, Nat.mod_lt _ hn, Nat.div_add_mod q n⟩
theorem tb_last {n m : Nat} {P : Pv} (h : pc P = m) (h1 : 1 ≤ m) : tbI n P (m - 1) = -9 := by
  have : ¬ tbh n P (m - 1) = true := fun z => by
    unfold tbh at z
    rw [Bool.and_eq_true, decide_eq_true_eq] at z
    omega
  unfold tbI
  rw [if_neg this]
set_option maxRecDepth 100000 in
theorem st_477 {lim : Nat × Nat} {Q : Option Value → xHp → Prop} {A B n m q c0 s0 : Nat} {S : Nat → Nat} {F : Nat → Nat → Nat} {P P2 : Pv} {h1 : xHp} {ω : Wv} {l : List Sv} {f : Nat → Int32}
    (hQ : mQ A n c0 s0 Q) (w : isT h1 A ω) (k : wok ω) (e : ω.1 = (n, S, F, P2)) (el : ω.2.1 = (n, S, F, lk1 P (q / n) (q % n)) :: l) (hl : l.length ≤ 7) (z1 : h1.1 = c0) (z2 : h1.2.1 = s0) (ha : xat h1 B (xia 56 f)) (hB : A + 84 ≤ B) (hf : wds n P f) (hnl : nol P) (hkP : pok n P) (hm : pc P = m) (hm1 : 1 ≤ m) (hq : q < n * m) :
    xAt lim g_Law_mends Q 477 [(0, .ref A), (1, .int (nI n)), (3, .int (nI m)), (4, .int (nI 1)), (7, .int (nI (cn n (F 4) P))), (8, .ref B), (9, .int (nI q))] [] h1 := by
  obtain ⟨hn2, hn7, hF, -⟩ := wk_s k e
  have hm8 : m ≤ 8 := by rw [← hm]; exact hkP.1
  have hnm : n * m ≤ 7 * 8 := Nat.mul_le_mul hn7 hm8
  obtain ⟨hs, hi, hqe⟩ := dm_at hq
  have hs' : q / n < pc P := by rw [hm]; exact hs
  have hu := hF 4 (by omega)
  have hnn : ¬ nI n = 0 := n_ne_0 (by omega) (by omega)
  have nl3 : nol (plok (lk1 P (q / n) (q % n)) (q / n) (plk (lk1 P (q / n) (q % n)) (q / n) &&& (2 ^ (q % n) ^^^ 4294967295))) := lk0_nol (by omega) hnl hs'
  refine xgoal [(545, [0, 3, 4])] 600 ok_Law_mends ?_
  refine br_f (by decide) ?_
  refine cl_undo (n := n) (S := S) (F := F) (P := P) w k frm_rf el (fun h2 ω w k e fr => ?_)
  refine br_f (n_nn (by omega)) ?_
  refine cl_diff (W := pst P) (N := 0) w k fr e (xat_fr ha fr (by omega)) hB hf hkP.2.1 sum_same (fun h2 w fr => ?_)
  refine br_t rfl ?_
  refine And.intro hnn ?_
  refine And.intro hnn ?_
  refine cl_lock0' (s := q / n) (i := q % n) w k fr e hs' hi (pk_div (by omega) (by omega) (by omega)) (pk_rem (by omega) (by omega) (by omega)) (fun h2 ω w k e fr => ?_)
  refine br_t (congrArg nI (lk1_bit hn7 hnl hs' hi)) ?_
  have hk3 := (wk_s k e).2.2.2
  generalize hP3 : plok (lk1 P (q / n) (q % n)) (q / n) (plk (lk1 P (q / n) (q % n)) (q / n) &&& (2 ^ (q % n) ^^^ 4294967295)) = P3 at *
  have c3 : pc P3 = pc P := by rw [← hP3]; rfl
  have s3 : pst P3 = pst P := by rw [← hP3]; rfl
  clear hP3
  have hc3 := cst_n0 hn7 hk3 hu nl3
  have e3 : cn n (F 4) P3 = cn n (F 4) P := by
    unfold cn
    rw [cst_nl hn7 hkP hk3 hu c3 (fun t => by rw [s3]) hnl nl3, c3]
  refine cl_mendv (r := 4) w k fr e (by omega) (by omega) hc3 (fun h2 ω w k e _ fr => ?_)
  refine br_t (congrArg nI e3) ?_
  have hN : sumN (fun t => ct (fun j => !decide (pst (prew P3 (fro n (F 4) P3) (F 4)) t j = pst P t j)) n) (pc (prew P3 (fro n (F 4) P3) (F 4))) = cn n (F 4) P := by
    rw [← e3, cn_df hn7 hk3 hu hc3, ← df_sym, s3]
    rfl
  refine cl_diff (W := pst P) (N := cn n (F 4) P) w k fr e (xat_fr ha fr (by omega)) hB (fun t ht j hj => hf t (by rw [← c3]; exact ht) j hj) (fun t ht j hj => hkP.2.1 t (by rw [← c3]; exact ht) j hj) hN (fun h2 w fr => ?_)
  refine br_t rfl ?_
  show xAt lim g_Law_mends Q 545 [(0, .ref A), (3, .int (nI m)), (4, .int (nI 1))] [] h2
  have c4 : pc (prew P3 (fro n (F 4) P3) (F 4)) = m := by show pc P3 = m; rw [c3, hm]
  refine xgoal [] 600 ok_Law_mends ?_
  refine br_f (by decide) ?_
  refine cl_turning' (s := m - 1) w k fr e (by rw [c4]; omega) (pk_sub hm1) (fun h2 w fr => ?_)
  refine br_t (tb_last c4 hm1) ?_
  refine cl_drop w k fr e (by rw [c4]; omega) (fun h2 ω w k e fr => ?_)
  refine br_t (by rw [c4, pk_sub hm1]) ?_
  exact ⟨Or.inr rfl, hQ _ ω w k (by rw [e]) (fr.1.trans z1) (fr.2.1.trans z2)⟩
set_option maxRecDepth 100000 in
theorem st_392 {lim : Nat × Nat} {Q : Option Value → xHp → Prop} {A B n m q c0 s0 : Nat} {S : Nat → Nat} {F : Nat → Nat → Nat} {P : Pv} {h1 : xHp} {ω : Wv} {f : Nat → Int32}
    (hQ : mQ A n c0 s0 Q) (w : isT h1 A ω) (k : wok ω) (e : ω.1 = (n, S, F, lk1 P (q / n) (q % n))) (z1 : h1.1 = c0) (z2 : h1.2.1 = s0) (ha : xat h1 B (xia 56 f)) (hB : A + 84 ≤ B) (hf : wds n P f) (hnl : nol P) (hkP : pok n P) (hm : pc P = m) (hm1 : 1 ≤ m) (hq : q < n * m) :
    xAt lim g_Law_mends Q 392 [(0, .ref A), (1, .int (nI n)), (3, .int (nI m)), (4, .int (nI 1)), (6, .int (nI (cn n (F 0) P))), (7, .int (nI (cn n (F 4) P))), (8, .ref B), (9, .int (nI q))] [] h1 := by
  obtain ⟨hn2, hn7, hF, hk1⟩ := wk_s k e
  have hm8 : m ≤ 8 := by rw [← hm]; exact hkP.1
  have hnm : n * m ≤ 7 * 8 := Nat.mul_le_mul hn7 hm8
  obtain ⟨hs, hi, hqe⟩ := dm_at hq
  have hs' : q / n < pc P := by rw [hm]; exact hs
  have hu := hF 0 (by omega)
  have hnn : ¬ nI n = 0 := n_ne_0 (by omega) (by omega)
  obtain ⟨hc1, hle⟩ := lk1_c hn7 hkP hk1 hu hnl hs' hi
  have hb1 := cn_b hn7 hk1 hc1
  refine xgoal [(399, [0, 1, 3, 4, 6, 7, 8, 9, 10]), (477, [0, 1, 3, 4, 7, 8, 9])] 600 ok_Law_mends ?_
  refine cl_costv (r := 0) w k frm_rf e (by omega) (show pc P ≠ 0 by omega) hc1 (fun h2 w fr => ?_)
  show xAt lim g_Law_mends Q 399 [(0, .ref A), (1, .int (nI n)), (3, .int (nI m)), (4, .int (nI 1)), (6, .int (nI (cn n (F 0) P))), (7, .int (nI (cn n (F 4) P))), (8, .ref B), (9, .int (nI q)), (10, .int (nI (cn n (F 0) (lk1 P (q / n) (q % n)))))] [] h2
  refine xgoal [(477, [0, 1, 3, 4, 7, 8, 9])] 600 ok_Law_mends ?_
  refine br_f (by decide) ?_
  refine br_f (nI_nlt hle (by omega)) ?_
  refine cl_mendv (r := 0) w k fr e (by omega) (show pc P ≠ 0 by omega) hc1 (fun h2 ω2 w k2 e2 el fr => ?_)
  rw [e] at el
  refine br_t rfl ?_
  obtain ⟨x1, x2, x3⟩ := cst_at hn7 hk1 hu hc1
  have hk2 := (wk_s k2 e2).2.2.2
  refine cl_follows (r := 0) w k2 fr e2 (by omega) (fun h2 w fr => ?_)
  refine br_t (congrArg nI (fl_1 ((flw_ex hk2 hu (show 1 ≤ pc P by omega)).mpr ⟨_, x1, fun t _ j _ => rfl⟩))) ?_
  obtain ⟨y1, y2⟩ := cn_0 hn7 hk2 hu x1 (fun t _ j _ => rfl)
  refine cl_costv (r := 0) w k2 fr e2 (by omega) (show pc P ≠ 0 by omega) y1 (fun h2 w fr => ?_)
  refine br_t (congrArg nI y2) ?_
  have hN : sumN (fun t => ct (fun j => !decide (pst (prew (lk1 P (q / n) (q % n)) (fro n (F 0) (lk1 P (q / n) (q % n))) (F 0)) t j = pst P t j)) n) (pc (prew (lk1 P (q / n) (q % n)) (fro n (F 0) (lk1 P (q / n) (q % n))) (F 0))) = cn n (F 0) (lk1 P (q / n) (q % n)) := by
    rw [cn_df hn7 hk1 hu hc1, ← df_sym]
    rfl
  refine cl_diff (W := pst P) (N := cn n (F 0) (lk1 P (q / n) (q % n))) w k2 fr e2 (xat_fr ha fr (by omega)) hB hf hkP.2.1 hN (fun h2 w fr => ?_)
  refine br_t rfl ?_
  refine And.intro hnn ?_
  refine And.intro hnn ?_
  refine cl_word' (s := q / n) (i := q % n) w k2 fr e2 hs' hi (pk_div (by omega) (by omega) (by omega)) (pk_rem (by omega) (by omega) (by omega)) (fun h2 w fr => ?_)
  refine xal (xat_fr ha fr (by omega)) rfl (show q < 56 by omega) (by decide) ?_
  have hfq := hf (q / n) hs' (q % n) hi
  rw [hqe] at hfq
  have hst := (lk1_okx hn7 hnl hs' hi).mp x2
  refine br_t (by rw [hfq, hst]; rfl) ?_
  refine st_477 (l := ω.2.1.take 7) hQ w k2 e2 el ?_ (fr.1.trans z1) (fr.2.1.trans z2) (xat_fr ha fr (by omega)) hB hf hnl hkP hm hm1 hq
  rw [List.length_take]
  exact Nat.min_le_left _ _
set_option maxRecDepth 100000 in
theorem st_352 {lim : Nat × Nat} {Q : Option Value → xHp → Prop} {A B n m c0 s0 : Nat} {S : Nat → Nat} {F : Nat → Nat → Nat} {P : Pv} {h1 : xHp} {ω : Wv} {f : Nat → Int32}
    (hQ : mQ A n c0 s0 Q) (w : isT h1 A ω) (k : wok ω) (e : ω.1 = (n, S, F, P)) (z1 : h1.1 = c0) (z2 : h1.2.1 = s0) (ha : xat h1 B (xia 56 f)) (hB : A + 84 ≤ B) (hf : wds n P f) (hnl : nol P) (hm : pc P = m) (hm1 : 1 ≤ m) :
    xAt lim g_Law_mends Q 352 [(0, .ref A), (1, .int (nI n)), (2, .retAddr 0), (3, .int (nI m)), (4, .int (nI 1)), (6, .int (nI (cn n (F 0) P))), (7, .int (nI (cn n (F 4) P))), (8, .ref B)] [] h1 := by
  obtain ⟨hn2, hn7, hF, hkP⟩ := wk_s k e
  have hm8 : m ≤ 8 := by rw [← hm]; exact hkP.1
  have hnm : n * m ≤ 7 * 8 := Nat.mul_le_mul hn7 hm8
  have hnm1 : 2 * 1 ≤ n * m := Nat.mul_le_mul hn2 hm1
  have hnn : ¬ nI n = 0 := n_ne_0 (by omega) (by omega)
  refine xgoal [(364, [0, 1, 3, 4, 6, 7, 8, 9]), (392, [0, 1, 3, 4, 6, 7, 8, 9])] 600 ok_Law_mends ?_
  refine xri (sp_Law_cell (k := 12) (by omega)) (fun v h2 z => ?_)
  obtain ⟨⟨c, hv, hc⟩, rfl⟩ := z
  cases hv
  refine And.intro (by rw [n_mul]; exact n_ne_0 (by omega) (by omega)) ?_
  have eq : nI c - nI c / (nI n * nI m) * (nI n * nI m) = nI (c % (n * m)) := by rw [n_mul, pk_rem hc (by omega) (by omega)]
  have k364 : xAt lim g_Law_mends Q 364 [(0, .ref A), (1, .int (nI n)), (3, .int (nI m)), (4, .int (nI 1)), (6, .int (nI (cn n (F 0) P))), (7, .int (nI (cn n (F 4) P))), (8, .ref B), (9, .int (nI (c % (n * m))))] [] h2 := by
    have hq : c % (n * m) < n * m := Nat.mod_lt _ (by omega)
    clear eq
    generalize c % (n * m) = q at *
    obtain ⟨hs, hi, hqe⟩ := dm_at hq
    have hs' : q / n < pc P := by rw [hm]; exact hs
    refine xgoal [(392, [0, 1, 3, 4, 6, 7, 8, 9])] 600 ok_Law_mends ?_
    refine br_f (by decide) ?_
    refine And.intro hnn ?_
    refine And.intro hnn ?_
    refine cl_lock1' (s := q / n) (i := q % n) w k frm_rf e hs' hi (pk_div (by omega) (by omega) (by omega)) (pk_rem (by omega) (by omega) (by omega)) (fun h2 ω w k e fr => ?_)
    refine br_t (by rw [hnl _ hs', Nat.zero_div]) ?_
    exact st_392 hQ w k e (fr.1.trans z1) (fr.2.1.trans z2) (xat_fr ha fr (by omega)) hB hf hnl hkP hm hm1 hq
  rw [← eq] at k364
  exact k364
set_option maxRecDepth 100000 in
theorem st_312 {lim : Nat × Nat} {Q : Option Value → xHp → Prop} {A n m c0 s0 : Nat} {S : Nat → Nat} {F : Nat → Nat → Nat} {P : Pv} {h1 : xHp} {ω : Wv}
    (hQ : mQ A n c0 s0 Q) (w : isT h1 A ω) (k : wok ω) (e : ω.1 = (n, S, F, P)) (z1 : h1.1 + 1 = c0) (z2 : h1.2.1 + 56 = s0) (l1 : c0 ≤ lim.1) (l2 : s0 ≤ lim.2) (hA : A + 84 ≤ h1.1) (hnl : nol P) (hm : pc P = m) (hm1 : 1 ≤ m) :
    xAt lim g_Law_mends Q 312 [(0, .ref A), (1, .int (nI n)), (2, .retAddr 0), (3, .int (nI m)), (4, .int (nI 1)), (6, .int (nI (cn n (F 0) P))), (7, .int (nI (cn n (F 4) P)))] [] h1 := by
  obtain ⟨hn2, hn7, hF, hkP⟩ := wk_s k e
  have hm8 : m ≤ 8 := by rw [← hm]; exact hkP.1
  have hnm : n * m ≤ 7 * 8 := Nat.mul_le_mul hn7 hm8
  have hnn : ¬ nI n = 0 := n_ne_0 (by omega) (by omega)
  refine xgoal [(318, [0, 1, 2, 3, 4, 6, 7, 8])] 600 ok_Law_mends ?_
  refine ⟨56, rfl, by omega, by omega, by omega, ?_⟩
  show xAt lim g_Law_mends Q 318 [(0, .ref A), (1, .int (nI n)), (2, .retAddr 0), (3, .int (nI m)), (4, .int (nI 1)), (6, .int (nI (cn n (F 0) P))), (7, .int (nI (cn n (F 4) P))), (8, .ref h1.1)] [] (xnew h1 56 (xia 56 (fun _ => 0)))
  have w0 : isT (xnew h1 56 (xia 56 (fun _ => 0))) A ω := w.sb (sub_new (sub_rf (lo := A) (hi := A + 84)) hA) (Nat.le_refl _) (Nat.le_refl _)
  have a0 : xat (xnew h1 56 (xia 56 (fun _ => 0))) h1.1 (xia 56 (fun _ => 0)) := xat_nf (h := h1)
  refine xgoal [(321, [0, 1, 2, 3, 4, 6, 7, 8, 9])] 600 ok_Law_mends ?_
  refine up_loop (P := fun q => ∀ (h2 : xHp) (f : Nat → Int32), isT h2 A ω → h2.1 = c0 → h2.2.1 = s0 → xat h2 h1.1 (xia 56 f) → (∀ r, r < q → f r = nI (pst P (r / n) (r % n))) → xAt lim g_Law_mends Q 321 [(0, .ref A), (1, .int (nI n)), (2, .retAddr 0), (3, .int (nI m)), (4, .int (nI 1)), (6, .int (nI (cn n (F 0) P))), (7, .int (nI (cn n (F 4) P))), (8, .ref h1.1), (9, .int (nI q))] [] h2) (n * m) ?_ (fun q hq ih => ?_) 0 (Nat.zero_le _) _ _ w0 z1 z2 a0 (fun r hr => absurd hr (Nat.not_lt_zero r))
  · intro h2 f w y1 y2 ha hf
    refine xgoal [(352, [0, 1, 2, 3, 4, 6, 7, 8])] 600 ok_Law_mends ?_
    refine br_t (by rw [n_mul]; exact nI_le (Nat.le_refl _) (by omega)) ?_
    refine st_352 hQ w k e y1 y2 ha hA (fun t ht j hj => ?_) hnl hm hm1
    have ht : t < m := by rw [← hm]; exact ht
    have h56 : n * t + j < n * m := by
      have : n * (t + 1) ≤ n * m := Nat.mul_le_mul_left n ht
      rw [Nat.mul_add, Nat.mul_one] at this
      omega
    rw [hf _ h56, Nat.mul_add_mod, Nat.mod_eq_of_lt hj, Nat.mul_add_div (by omega), Nat.div_eq_of_lt hj, Nat.add_zero]
  · intro h2 f w y1 y2 ha hf
    obtain ⟨hs, hi, hqe⟩ := dm_at hq
    refine xgoal [(321, [0, 1, 2, 3, 4, 6, 7, 8, 9])] 600 ok_Law_mends ?_
    refine br_f (by rw [n_mul]; exact n_nle hq (by omega)) ?_
    refine And.intro hnn ?_
    refine And.intro hnn ?_
    refine cl_word' (s := q / n) (i := q % n) w k frm_rf e (by rw [hm]; exact hs) hi (pk_div (by omega) (by omega) (by omega)) (pk_rem (by omega) (by omega) (by omega)) (fun h3 w fr => ?_)
    have ha3 := xat_fr ha fr (Or.inr hA)
    refine xal ha3 rfl (show q < 56 by omega) (by decide) ?_
    have w3 : isT (xset h3 h1.1 (xia 56 (upd f q (nI (pst P (q / n) (q % n)))))) A ω := w.sb (sub_set (sub_rf (lo := A) (hi := A + 84)) (Or.inr hA)) (Nat.le_refl _) (Nat.le_refl _)
    have ih := ih (xset h3 h1.1 (xia 56 (upd f q (nI (pst P (q / n) (q % n)))))) _ w3 (fr.1.trans y1) (fr.2.1.trans y2) (xat_sf ha3.1) (fun r hr => by
      unfold upd
      by_cases c : r = q
      · rw [if_pos c, c]
      · rw [if_neg c]; exact hf r (by omega))
    rw [← nI_1 q] at ih
    exact ih
