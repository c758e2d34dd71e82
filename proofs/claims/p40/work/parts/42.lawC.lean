/-! THE LAW: products, roots -/
theorem bc_b {n set : Nat} {G : Nat → Nat → Nat} (hn : n ≤ 7) : bc (bfs n set G) ≤ 5040 := Nat.le_trans (BI_le (bfs_CI n set G).1) (fct_le hn)
theorem n_rem0 {a b : Nat} (ha : a < 2147483648) (h0 : 0 < b) (hb : b < 2147483648) (h : a % b = 0) : nI a - nI a / nI b * nI b = nI 0 := by
  rw [pk_rem ha h0 hb, h]
theorem n_ne_0 {b : Nat} (h0 : 0 < b) (hb : b < 2147483648) : ¬ nI b = 0 := nI_ne0 h0 hb
theorem n_nle {a b : Nat} (h : b < a) (ha : a < 2147483648) : ¬ nI a ≤ nI b := fun z => by
  have := (nI_leI (by omega) (by omega)).mp z
  omega
theorem n_ne {a b : Nat} (h : a ≠ b) (ha : a < 2147483648) (hb : b < 2147483648) : ¬ nI a = nI b := fun z => h ((nI_eq ha hb).mp z)
theorem sp_Law_products {h : xHp} {A n c : Nat} {ω : Wv} {S : Nat → Nat} {F : Nat → Nat → Nat} {P : Pv} (w : isT h A ω) (k : wok ω) (e : ω.1 = (n, S, F, P)) (hc : c < 2147483648) : SpecR g_Law_products [.ref A, .int (nI n), .int (nI c)] h (lawP h A n S (F 0) (F 1) P) := by
  refine SpecR.of (by decide +kernel) (Nat.le_of_ble_eq_true rfl) (fun c hc => by cases hc) (fun v h' z => ⟨⟨_, z.1⟩, z.2.1.1, z.2.1.2.1⟩) (fun Q hQ => ?_)
  obtain ⟨hn2, hn7, hF, -⟩ := wk_s k e
  have hM1 := gen_pos (set := 3) hF
  have hM2 := bc_b (set := 3) (G := F) hn7
  have hfc := fct_le hn7
  have hfp := fct_pos n
  have ho1 := ord_1 n (F 0)
  have ho2 : ord n (F 0) ≤ 12 := sr_le _ 11 1
  have ho3 := ord_1 n (F 1)
  have ho4 : ord n (F 1) ≤ 12 := sr_le _ 11 1
  have hd1 : bc (bfs n 3 F) % ord n (F 0) = 0 := by
    have := gen_in (s1 := 1) (s2 := 3) hn7 hF (fun r hr hb => (bit_3 r hr).mpr (Or.inl ((bit_1 r hr).mp hb)))
    rw [show bc (bfs n 1 F) = ord n (F 0) from gen_one (r := 0) hn7 (by omega) hF] at this
    exact this
  have hd2 : bc (bfs n 3 F) % ord n (F 1) = 0 := by
    have := gen_in (s1 := 2) (s2 := 3) hn7 hF (by decide)
    rw [show bc (bfs n 2 F) = ord n (F 1) from gen_one (r := 1) hn7 (by omega) hF] at this
    exact this
  refine xgoal [(6, [0, 1, 2, 3]), (48, [0, 1, 2, 3, 4]), (73, [0, 3, 4, 5]), (81, [0, 3, 4, 5, 6]), (159, [0, 4, 5, 7])] 400 ok_Law_products ?_
  refine cl_gen (s := 3) w k frm_rf e (by omega) (fun h1 w fr => ?_)
  show xAt (h.1, h.2.1) g_Law_products Q 6 [(0, .ref A), (1, .int (nI n)), (2, .int (nI c)), (3, .int (nI (bc (bfs n 3 F))))] [] h1
  refine xgoal [(6, [0, 1, 2, 3]), (48, [0, 1, 2, 3, 4]), (73, [0, 3, 4, 5]), (81, [0, 3, 4, 5, 6]), (159, [0, 4, 5, 7])] 400 ok_Law_products ?_
  refine br_f (n_nle (by omega) (by omega)) ?_
  refine xci (sp_Law_all (n := n) (by omega) hn7 _) ?_
  refine And.intro (n_ne_0 (by omega) (by omega)) ?_
  refine br_t (n_rem0 (by omega) (by omega) (by omega) (gen_all hn7 hF)) ?_
  refine cl_turn (r := 0) (q := 1) w k fr e (by omega) (by omega) (fun h1 w fr => ?_)
  refine And.intro (n_ne_0 (b := ord n (F 0)) (by omega) (by omega)) ?_
  refine br_t (n_rem0 (b := ord n (F 0)) (by omega) (by omega) (by omega) hd1) ?_
  refine cl_turn (r := 1) (q := 1) w k fr e (by omega) (by omega) (fun h1 w fr => ?_)
  refine And.intro (n_ne_0 (b := ord n (F 1)) (by omega) (by omega)) ?_
  refine br_t (n_rem0 (b := ord n (F 1)) (by omega) (by omega) (by omega) hd2) ?_
  show xAt (h.1, h.2.1) g_Law_products Q 48 [(0, .ref A), (1, .int (nI n)), (2, .int (nI c)), (3, .int (nI (bc (bfs n 3 F)))), (4, .int (nI 1))] [] h1
  refine xgoal [(6, [0, 1, 2, 3]), (48, [0, 1, 2, 3, 4]), (73, [0, 3, 4, 5]), (81, [0, 3, 4, 5, 6]), (159, [0, 4, 5, 7])] 400 ok_Law_products ?_
  refine xci (sp_Law_all (n := n) (by omega) hn7 _) ?_
  refine And.intro (n_ne_0 (by omega) (by omega)) ?_
  refine cl_unrank' (r := 2) (x := c % fct n) w k fr e (by omega) (Nat.mod_lt _ hfp) (pk_rem hc hfp (by omega)) (fun h1 ω w k e fr => ?_)
  have hu1 := ord_1 n (unr n (c % fct n))
  have hu2 : ord n (unr n (c % fct n)) ≤ 12 := sr_le _ 11 1
  refine br_t (nI_le hu1 (by omega)) ?_
  have hF2 := (wk_s k e).2.2.1
  have hsame : bfs n 3 (upF F 2 (unr n (c % fct n))) = bfs n 3 F := bfs_ne (jj := 2) (by decide) (fun q hq => upF_ne hq)
  have g0 : upF F 2 (unr n (c % fct n)) 0 = F 0 := rfl
  have g1 : upF F 2 (unr n (c % fct n)) 1 = F 1 := rfl
  rw [← g0, ← g1] at hQ
  rw [← hsame] at hM1 hM2 ⊢
  clear g0 g1 hd1 hd2 ho1 ho2 ho3 ho4 hF
  generalize upF F 2 (unr n (c % fct n)) = F2 at *
  have hW := bc_b (set := 7) (G := F2) hn7
  by_cases hb : bd (bfs n 3 F2) (rank n (F2 2)) = 0
  · have hm := gen_more hF2 hb
    refine cl_reach_n (s := 3) (r := 2) w k fr e (by omega) (by omega) hb (fun h1 w fr => ?_)
    show xAt (h.1, h.2.1) g_Law_products Q 73 [(0, .ref A), (3, .int (nI (bc (bfs n 3 F2)))), (4, .int (nI 1)), (5, .int (-9))] [] h1
    refine xgoal [(6, [0, 1, 2, 3]), (48, [0, 1, 2, 3, 4]), (73, [0, 3, 4, 5]), (81, [0, 3, 4, 5, 6]), (159, [0, 4, 5, 7])] 400 ok_Law_products ?_
    refine cl_gen (s := 7) w k fr e (by omega) (fun h1 w fr => ?_)
    show xAt (h.1, h.2.1) g_Law_products Q 81 [(0, .ref A), (3, .int (nI (bc (bfs n 3 F2)))), (4, .int (nI 1)), (5, .int (-9)), (6, .int (nI (bc (bfs n 7 F2))))] [] h1
    refine xgoal [(6, [0, 1, 2, 3]), (48, [0, 1, 2, 3, 4]), (73, [0, 3, 4, 5]), (81, [0, 3, 4, 5, 6]), (159, [0, 4, 5, 7])] 400 ok_Law_products ?_
    refine br_f (by decide) ?_
    refine br_f (by decide) ?_
    refine br_t rfl ?_
    refine br_f (n_nle hm (by omega)) ?_
    refine cl_factor_n (s := 3) (r := 2) (i := 0) w k fr e (by omega) (by omega) (by omega) (by omega) (fun h1 w fr => ?_)
    refine br_t rfl ?_
    exact ⟨Or.inr rfl, hQ _ _ ⟨rfl, fr, ω, _, w, k, e, rfl, rfl⟩⟩
  · have hm := gen_same hF2 hb
    have hfar := bd_bc (n := n) (set := 3) (G := F2) (x := rank n (F2 2))
    obtain ⟨d, hd⟩ : ∃ d, d = bd (bfs n 3 F2) (rank n (F2 2)) - 1 := ⟨_, rfl⟩
    have key : ∀ i, i ≤ d → ∀ (h1 : xHp) (ω : Wv) (F5 : Nat → Nat → Nat), isT h1 A ω → wok ω → frm h h1 A (A + 84) → ω.1 = (n, S, F5, P) → (∀ q, q ≠ 5 → F5 q = F2 q) → FI n 3 F2 (F2 2) (F5 5) i → xAt (h.1, h.2.1) g_Law_products Q 159 [(0, .ref A), (4, .int (nI 1)), (5, .int (nI d)), (7, .int (nI i))] [] h1 := by
      refine up_loop (P := fun i => ∀ (h1 : xHp) (ω : Wv) (F5 : Nat → Nat → Nat), isT h1 A ω → wok ω → frm h h1 A (A + 84) → ω.1 = (n, S, F5, P) → (∀ q, q ≠ 5 → F5 q = F2 q) → FI n 3 F2 (F2 2) (F5 5) i → xAt (h.1, h.2.1) g_Law_products Q 159 [(0, .ref A), (4, .int (nI 1)), (5, .int (nI d)), (7, .int (nI i))] [] h1) d ?_ (fun i hi ih => ?_)
      · intro h1 ω F5 w k fr e hq hI
        refine xgoal [(159, [0, 4, 5, 7])] 400 ok_Law_products ?_
        refine br_t (nI_le (Nat.le_refl _) (by omega)) ?_
        refine br_f (by decide) ?_
        refine cl_turn (r := 5) (q := 0) w k fr e (by omega) (by omega) (fun h1 w fr => ?_)
        refine cl_turn (r := 2) (q := 0) w k fr e (by omega) (by omega) (fun h1 w fr => ?_)
        have e2 : rank n (F5 5) = rank n (F5 2) := by
          rw [hq 2 (by omega)]
          exact FI_e hI (by omega)
        refine br_t (congrArg nI e2) ?_
        have hs5 : bfs n 3 F5 = bfs n 3 F2 := bfs_ne (jj := 5) (by decide) hq
        refine cl_factor_n (s := 3) (r := 2) (i := d) w k fr e (by omega) (by omega) (by omega) (by rw [hs5, hq 2 (by omega)]; omega) (fun h1 w fr => ?_)
        refine br_t rfl ?_
        exact ⟨Or.inr rfl, hQ _ _ ⟨rfl, fr, ω, _, w, k, e, hq 0 (by omega), hq 1 (by omega)⟩⟩
      · intro h1 ω F5 w k fr e hq hI
        refine xgoal [(159, [0, 4, 5, 7]), (192, [0, 5, 7, 8])] 400 ok_Law_products ?_
        refine br_f (n_nle hi (by omega)) ?_
        refine br_f (by decide) ?_
        have hs5 : bfs n 3 F5 = bfs n 3 F2 := bfs_ne (jj := 5) (by decide) hq
        obtain ⟨i6, ib, hI2⟩ := FI_s (set := 3) hF2 hI (by omega)
        have hr := (bit_3 _ i6).mp ib
        refine cl_factor_y (s := 3) (r := 2) (i := i) w k fr e (by omega) (by omega) (by omega) (by rw [hs5, hq 2 (by omega)]; omega) (fun h1 w fr => ?_)
        have hfe : fac n 3 F5 (bfs n 3 F5) i (F5 2) = fac n 3 F2 (bfs n 3 F2) i (F2 2) := by
          rw [hs5, hq 2 (by omega)]
          exact fac_ne (jj := 5) (by omega) (by decide) hq i _
        rw [← hfe] at i6 hr hI2
        have hne : F5 (fac n 3 F5 (bfs n 3 F5) i (F5 2)) = F2 (fac n 3 F5 (bfs n 3 F5) i (F5 2)) := hq _ (by omega)
        rw [← hne] at hI2
        clear hfe hne
        generalize fac n 3 F5 (bfs n 3 F5) i (F5 2) = r at *
        have k192 : xAt (h.1, h.2.1) g_Law_products Q 192 [(0, .ref A), (5, .int (nI (d))), (7, .int (nI i)), (8, .int (nI r))] [] h1 := by
          refine xgoal [(159, [0, 4, 5, 7])] 400 ok_Law_products ?_
          refine cl_product (a := 5) (b := r) (to := 5) w k fr e (by omega) i6 (by omega) (fun h2 ω w k e fr => ?_)
          refine br_f (n_nn (Nat.lt_trans (rk_b hn7 _) (by decide))) ?_
          have ih := ih h2 ω _ w k fr e (fun q hq' => (upF_ne hq').trans (hq q hq')) hI2
          rw [← nI_1 i] at ih
          exact ih
        by_cases z : r = 0
        · refine br_t (congrArg nI z) ?_
          exact k192
        · refine br_f (n_ne z (by omega) (by omega)) ?_
          refine br_t (congrArg nI (show r = 1 by omega)) ?_
          exact k192
    refine cl_reach_y (s := 3) (r := 2) w k fr e (by omega) (by omega) hb (fun h1 w fr => ?_)
    show xAt (h.1, h.2.1) g_Law_products Q 73 [(0, .ref A), (3, .int (nI (bc (bfs n 3 F2)))), (4, .int (nI 1)), (5, .int (nI (bd (bfs n 3 F2) (rank n (F2 2)) - 1)))] [] h1
    refine xgoal [(6, [0, 1, 2, 3]), (48, [0, 1, 2, 3, 4]), (73, [0, 3, 4, 5]), (81, [0, 3, 4, 5, 6]), (159, [0, 4, 5, 7])] 400 ok_Law_products ?_
    refine cl_gen (s := 7) w k fr e (by omega) (fun h1 w fr => ?_)
    show xAt (h.1, h.2.1) g_Law_products Q 81 [(0, .ref A), (3, .int (nI (bc (bfs n 3 F2)))), (4, .int (nI 1)), (5, .int (nI (bd (bfs n 3 F2) (rank n (F2 2)) - 1))), (6, .int (nI (bc (bfs n 7 F2))))] [] h1
    refine xgoal [(6, [0, 1, 2, 3]), (48, [0, 1, 2, 3, 4]), (73, [0, 3, 4, 5]), (81, [0, 3, 4, 5, 6]), (159, [0, 4, 5, 7])] 400 ok_Law_products ?_
    refine br_t (nI_le (Nat.zero_le _) (by omega)) ?_
    refine br_f (by decide) ?_
    refine br_t (congrArg nI hm) ?_
    refine br_f (n_nle (by omega) (by omega)) ?_
    refine cl_make0 (r := 5) w k fr e (by omega) (by omega) (fun h1 ω w k e fr => ?_)
    refine br_t (congrArg nI (rank_id n)) ?_
    rw [hd] at key
    have hI0 : FI n 3 F2 (F2 2) (upF F2 5 (fun i => i) 5) 0 := by
      rw [upF_at]
      exact FI_0 (hF2 2 (by omega)) (fun j _ => rfl)
    have hq0 : ∀ q, q ≠ 5 → upF F2 5 (fun i => i) q = F2 q := fun q hq => upF_ne hq
    have key := key 0 (Nat.zero_le _) h1 ω (upF F2 5 (fun i => i)) w k fr e hq0 hI0
    exact key
/-! roots -/
theorem rt_le {n kk : Nat} {f g : Nat → Nat} (hg : PM n g) (h : ∀ i, i < n → itr g kk i = f i) : rt n f kk ≤ rank n g := Nat.le_of_not_lt fun z => by
  have := sr_no (rtb n f kk) (fct n) 0 (rank n g) (Nat.zero_le _) z
  have h2 : rtb n f kk (rank n g) = true := decide_eq_true (fun i hi => by
    rw [itr_congr (unr_PM n (rank n g)).1 (fun j hj => unr_rank hg j hj) kk i hi]
    exact h i hi)
  rw [h2] at this
  cases this
theorem rt_ok {n kk : Nat} {f : Nat → Nat} (h : rt n f kk < fct n) : ∀ i, i < n → itr (unr n (rt n f kk)) kk i = f i := of_decide_eq_true (sr_yes (rtb n f kk) (fct n) 0 (by unfold rt at h; omega))
theorem sp_Law_roots {h : xHp} {A n c : Nat} {ω : Wv} {S : Nat → Nat} {F : Nat → Nat → Nat} {P : Pv} (w : isT h A ω) (k : wok ω) (e : ω.1 = (n, S, F, P)) (hc : c < 2147483648) : SpecR g_Law_roots [.ref A, .int (nI c)] h (lawP h A n S (F 0) (F 1) P) := by
  refine SpecR.of (by decide +kernel) (Nat.le_of_ble_eq_true rfl) (fun c hc => by cases hc) (fun v h' z => ⟨⟨_, z.1⟩, z.2.1.1, z.2.1.2.1⟩) (fun Q hQ => ?_)
  obtain ⟨hn2, hn7, hF, -⟩ := wk_s k e
  have hf := hF 0 (by omega)
  have hfc := fct_le hn7
  refine xgoal [(6, [0, 2])] 400 ok_Law_roots ?_
  refine And.intro (by decide) ?_
  have ek : nI 1 + (nI c - nI c / nI 4 * nI 4) = nI (1 + c % 4) := by rw [n_mod4 hc, nI_add]
  have k6 : xAt (h.1, h.2.1) g_Law_roots Q 6 [(0, .ref A), (2, .int (nI (1 + c % 4)))] [] h := by
    generalize hkk : 1 + c % 4 = kk
    have hk1 : 1 ≤ kk := by omega
    have hk4 : kk ≤ 4 := by omega
    clear ek hkk
    refine xgoal [(95, [0, 2, 3, 4]), (117, [])] 400 ok_Law_roots ?_
    refine cl_turn (r := 0) (q := 0) w k frm_rf e (by omega) (by omega) (fun h1 w fr => ?_)
    by_cases hx : rt n (F 0) kk < fct n
    · refine cl_root_y (a := 0) (c := kk) (to := 5) w k fr e (by omega) hk1 (by omega) (by omega) hx (fun h1 ω w k e fr => ?_)
      have hru := rank_unr hx
      have hok := rt_ok hx
      refine br_t (nI_le (Nat.zero_le _) (by have := rk_b hn7 (unr n (rt n (F 0) kk)); omega)) ?_
      refine cl_turn (r := 5) (q := 0) w k fr e (by omega) (by omega) (fun h1 w fr => ?_)
      refine br_t rfl ?_
      refine cl_pow (a := 5) (c := kk) (to := 5) w k fr e (by omega) (by omega) (by omega) (fun h1 ω w k e fr => ?_)
      refine br_t (congrArg nI (rank_congr hok)) ?_
      have k117 : ∀ (h1 : xHp) (ω : Wv) (F1 : Nat → Nat → Nat), isT h1 A ω → wok ω → frm h h1 A (A + 84) → ω.1 = (n, S, F1, P) → F1 0 = F 0 → F1 1 = F 1 → xAt (h.1, h.2.1) g_Law_roots Q 117 [] [] h1 := fun h1 ω F1 w k fr e e0 e1 => by
        refine xgoal [] 400 ok_Law_roots ?_
        exact ⟨Or.inr rfl, hQ _ _ ⟨rfl, fr, ω, _, w, k, e, e0, e1⟩⟩
      have k95 : ∀ (h1 : xHp) (ω : Wv) (F1 : Nat → Nat → Nat), isT h1 A ω → wok ω → frm h h1 A (A + 84) → ω.1 = (n, S, F1, P) → F1 0 = F 0 → F1 1 = F 1 → xAt (h.1, h.2.1) g_Law_roots Q 95 [(0, .ref A), (2, .int (nI kk)), (3, .int (nI (rank n (F 0)))), (4, .int (nI (rank n (unr n (rt n (F 0) kk)))))] [] h1 := fun h1 ω F1 w k fr e e0 e1 => by
        refine xgoal [(117, [])] 400 ok_Law_roots ?_
        refine cl_pow (a := 1) (c := kk) (to := 5) w k fr e (by omega) (by omega) (by omega) (fun h2 ω w k e fr => ?_)
        by_cases z : rank n (itr (F1 1) kk) = rank n (F 0)
        · refine br_t (congrArg nI z) ?_
          refine cl_turn (r := 1) (q := 0) w k fr e (by omega) (by omega) (fun h2 w fr => ?_)
          have hg : PM n (F1 1) := by rw [e1]; exact hF 1 (by omega)
          have hle := rt_le hg (rank_inj (itr_PM hg kk) hf z)
          refine br_f (nI_nlt (a := rank n (F1 1)) (by rw [hru]; exact hle) (Nat.lt_trans (rk_b hn7 _) (by decide))) ?_
          exact k117 h2 ω _ w k fr e e0 e1
        · refine br_f (n_ne z (Nat.lt_trans (rk_b hn7 _) (by decide)) (Nat.lt_trans (rk_b hn7 _) (by decide))) ?_
          exact k117 h2 ω _ w k fr e e0 e1
      by_cases z : 1 < kk
      · refine br_t (nI_lt z (by omega)) ?_
        exact k95 h1 ω _ w k fr e rfl rfl
      · refine br_f (nI_nlt (by omega) (by omega)) ?_
        have z1 : kk = 1 := by omega
        have er : rank n (unr n (rt n (F 0) kk)) = rank n (F 0) := rank_congr (fun i hi => by
          have := hok i hi
          rw [z1] at this ⊢
          exact this)
        refine br_t (congrArg nI er) ?_
        exact k95 h1 ω _ w k fr e rfl rfl
    · refine cl_root_n (a := 0) (c := kk) (to := 5) w k fr e (by omega) hk1 (by omega) (by omega) hx (fun h1 ω w k e fr => ?_)
      refine br_f (by decide) ?_
      refine br_t rfl ?_
      have no : ∀ r, r < 6 → rank n (itr (F r) kk) ≠ rank n (F 0) := fun r hr z => by
        have := rt_le (hF r hr) (rank_inj (itr_PM (hF r hr) kk) hf z)
        have := rank_lt n (F r)
        omega
      refine cl_pow (a := 1) (c := kk) (to := 5) w k fr e (by omega) (by omega) (by omega) (fun h1 ω w k e fr => ?_)
      refine br_f (n_ne (no 1 (by omega)) (Nat.lt_trans (rk_b hn7 _) (by decide)) (Nat.lt_trans (rk_b hn7 _) (by decide))) ?_
      refine cl_pow (a := 2) (c := kk) (to := 5) w k fr e (by omega) (by omega) (by omega) (fun h1 ω w k e fr => ?_)
      refine br_f (n_ne (no 2 (by omega)) (Nat.lt_trans (rk_b hn7 _) (by decide)) (Nat.lt_trans (rk_b hn7 _) (by decide))) ?_
      exact ⟨Or.inr rfl, hQ _ _ ⟨rfl, fr, ω, _, w, k, e, rfl, rfl⟩⟩
  rw [← ek] at k6
  exact k6
