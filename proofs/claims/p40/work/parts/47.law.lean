/-! THE LAW */ -/
def hp0 : xHp := (0, 0, fun _ => xob 0 [])
def lwl : Nat × Nat := (600000, 7302250)
def lwQ : Option Value → xHp → Prop := fun v _ => v = some (.int (nI 1))
set_option maxRecDepth 100000 in
theorem law_95 {A n : Nat} {S : Nat → Nat} {F : Nat → Nat → Nat} {P : Pv} {h1 : xHp} {ω : Wv} (w : isT h1 A ω) (k : wok ω) (e : ω.1 = (n, S, F, P)) (h0 : pc P = 0) (z1 : h1.1 = A + 84) (z2 : h1.2.1 = 10803) (hA : A = 0) :
    xAt lwl g_Law_law lwQ 95 [(0, .retAddr 0), (1, .ref A), (2, .int (nI n))] [] h1 := by
  obtain ⟨hn2, hn7, hF, -⟩ := wk_s k e
  have hfc := fct_le hn7
  refine xgoal [] 600 ok_Law_law ?_
  refine xri (sp_Law_cell (k := 3) (by omega)) (fun v h3 z => ?_)
  obtain ⟨⟨c, hv, hc⟩, rfl⟩ := z
  cases hv
  refine xri (sp_Law_products w k e hc) (fun v h4 z => ?_)
  obtain ⟨hv, fr, ω, F1, w, k, e, -, -⟩ := z
  cases hv
  refine br_f (by decide) ?_
  refine xri (sp_Law_cell (k := 13) (by omega)) (fun v h5 z => ?_)
  obtain ⟨⟨c, hv, hc⟩, rfl⟩ := z
  cases hv
  refine xri (sp_Law_roots w k e hc) (fun v h6 z => ?_)
  obtain ⟨hv, fr2, ω, F2, w, k, e, -, -⟩ := z
  cases hv
  refine br_f (by decide) ?_
  have y1 : h6.1 = A + 84 := (fr2.1.trans fr.1).trans z1
  have y2 : h6.2.1 = 10803 := (fr2.2.1.trans fr.2.1).trans z2
  refine xrn_ (lim := lwl) (sp_Law_mends w k e h0 (by omega)) (by rw [y1, hA]; exact Nat.le_of_ble_eq_true rfl) (by rw [y2]; exact Nat.le_of_ble_eq_true rfl) (fun v h7 z => ?_)
  obtain ⟨rfl, -, -, ω, w, k, en⟩ := z
  refine br_f (by decide) ?_
  refine xci (sp_Law_all (n := n) (by omega) hn7 _) ?_
  obtain ⟨⟨n', S', F', P'⟩, l⟩ := ω
  have en : n' = n := en
  subst en
  refine cl_unrank_bad (r := 0) w k frm_rf rfl (by omega) rfl (fun h8 w fr => ?_)
  refine br_t rfl ?_
  exact ⟨Or.inr rfl, rfl⟩
set_option maxRecDepth 100000 in
theorem law_41 {A n p q : Nat} {h1 : xHp} {ω : Wv} (w : isT h1 A ω) (k : wok ω) (e : ω.1 = st0 6) (z1 : h1.1 = A + 84) (z2 : h1.2.1 = 10803) (hA : A = 0) (hn2 : 2 ≤ n) (hn6 : n ≤ 6) (hp : p < fct n) (hq : q < fct n) :
    xAt lwl g_Law_law lwQ 41 [(0, .retAddr 0), (1, .ref A), (2, .int (nI n)), (3, .int (nI p)), (4, .int (nI q))] [] h1 := by
  have hfc := fct_le (show n ≤ 7 by omega)
  refine xgoal [(95, [0, 1, 2])] 600 ok_Law_law ?_
  refine cl_setWords (m := n) w k frm_rf e hn2 (by omega) (fun h2 ω w k e fr => ?_)
  refine br_t rfl ?_
  have o1 := ord_1 n (unr n p)
  have o2 : ord n (unr n p) ≤ 12 := sr_le _ 11 1
  have o3 := ord_1 n (unr n q)
  have o4 : ord n (unr n q) ≤ 12 := sr_le _ 11 1
  refine cl_unrank (r := 0) (x := p) w k fr e (by omega) hp (fun h2 ω w k e fr => ?_)
  refine br_f (nI_nlt o1 (by omega)) ?_
  refine cl_unrank (r := 1) (x := q) w k fr e (by omega) hq (fun h2 ω w k e fr => ?_)
  refine br_f (nI_nlt o3 (by omega)) ?_
  refine cl_turn (r := 0) (q := 0) w k fr e (by omega) (by omega) (fun h2 w fr => ?_)
  refine br_t (congrArg nI (rank_unr hp)) ?_
  refine xri (sp_Law_powers (p := p) (q := q) w k e (rank_unr hp) (rank_unr hq)) (fun v h4 z => ?_)
  obtain ⟨hv, fr2, ω, F1, w, k, e, -, -⟩ := z
  cases hv
  refine br_f (by decide) ?_
  exact law_95 w k e rfl ((fr2.1.trans fr.1).trans z1) ((fr2.2.1.trans fr.2.1).trans z2) hA
set_option maxRecDepth 100000 in
theorem law_8 {A : Nat} {h1 : xHp} {ω : Wv} (w : isT h1 A ω) (k : wok ω) (e : ω.1 = st0 6) (z1 : h1.1 = A + 84) (z2 : h1.2.1 = 10803) (hA : A = 0) :
    xAt lwl g_Law_law lwQ 8 [(0, .retAddr 0), (1, .ref A)] [] h1 := by
  refine xgoal [(18, [0, 1, 2])] 600 ok_Law_law ?_
  refine xri (sp_Law_cell (k := 0) (by omega)) (fun v h3 z => ?_)
  obtain ⟨⟨c, hv, hc⟩, rfl⟩ := z
  cases hv
  refine And.intro (by decide) ?_
  have eq : nI 2 + (nI c - nI c / nI 5 * nI 5) = nI (2 + c % 5) := by rw [pk_rem hc (by omega) (by omega), nI_add]
  have k18 : xAt lwl g_Law_law lwQ 18 [(0, .retAddr 0), (1, .ref A), (2, .int (nI (2 + c % 5)))] [] h3 := by
    have hn2 : 2 ≤ 2 + c % 5 := by omega
    have hn6 : 2 + c % 5 ≤ 6 := by omega
    clear eq
    generalize 2 + c % 5 = n at *
    have hfc := fct_le (show n ≤ 7 by omega)
    have hfp := fct_pos n
    refine xgoal [(29, [0, 1, 2, 3])] 600 ok_Law_law ?_
    refine xri (sp_Law_cell (k := 1) (by omega)) (fun v h4 z => ?_)
    obtain ⟨⟨c1, hv, hc1⟩, rfl⟩ := z
    cases hv
    refine xci (sp_Law_all (n := n) (by omega) (by omega) _) ?_
    refine And.intro (n_ne_0 (by omega) (by omega)) ?_
    have eq1 : nI c1 - nI c1 / nI (fct n) * nI (fct n) = nI (c1 % fct n) := pk_rem hc1 (by omega) (by omega)
    have k29 : xAt lwl g_Law_law lwQ 29 [(0, .retAddr 0), (1, .ref A), (2, .int (nI n)), (3, .int (nI (c1 % fct n)))] [] h4 := by
      have hp : c1 % fct n < fct n := Nat.mod_lt _ hfp
      clear eq1
      generalize c1 % fct n = p at *
      refine xgoal [(41, [0, 1, 2, 3, 4])] 600 ok_Law_law ?_
      refine xri (sp_Law_cell (k := 2) (by omega)) (fun v h5 z => ?_)
      obtain ⟨⟨c2, hv, hc2⟩, rfl⟩ := z
      cases hv
      refine xci (sp_Law_all (n := n) (by omega) (by omega) _) ?_
      refine And.intro (n_ne_0 (by omega) (by omega)) ?_
      have eq2 : nI c2 - nI c2 / nI (fct n) * nI (fct n) = nI (c2 % fct n) := pk_rem hc2 (by omega) (by omega)
      have k41 := law_41 (q := c2 % fct n) w k e z1 z2 hA hn2 hn6 hp (Nat.mod_lt _ hfp)
      rw [← eq2] at k41
      exact k41
    rw [← eq1] at k29
    exact k29
  rw [← eq] at k18
  exact k18
set_option maxRecDepth 100000 in
theorem law_0 : xAt lwl g_Law_law lwQ 0 [(0, .retAddr 0)] [] hp0 := by
  refine xgoal [(8, [0, 1])] 600 ok_Law_law ?_
  refine ⟨Nat.le_of_ble_eq_true rfl, Nat.le_of_ble_eq_true rfl, ?_⟩
  refine ⟨83, 10795, _, sp_TV_init (a := 0) (xat_nf (h := hp0)) rfl, Nat.le_of_ble_eq_true rfl, Nat.le_of_ble_eq_true rfl, ?_⟩
  intro h2 z
  obtain ⟨-, wT, fr⟩ := z
  exact law_8 (A := 0) (ω := (st0 6, [], 0, fun _ => 0)) wT wok_0 rfl fr.1 fr.2.1 rfl
