/-! THE REFERENCE'S CALLS: products of registers -/
theorem isMF.ob {h h' : xHp} {B : Nat} {ω : Wv} {F tx : Nat → Int32} {lines mw spot : Int32} (w : isMF h B ω F tx) (f : frm h h' B (B + 1)) (hx : xat h' B (obM B (nI ω.2.1.length) (nI (wT ω)) lines mw spot)) : isMF h' B ω F tx := by
  obtain ⟨-, w1, w2, ⟨w3, w4⟩, w5⟩ := w
  exact ⟨⟨lines, mw, spot, hx⟩, xat_fr w1 f (by omega), w2, ⟨xat_fr w3 f (by omega), w4⟩, w5.fr f (by omega)⟩
def faI (d : Nat) : Int32 := if d = 0 then -9 else nI (d - 1)
theorem nI_m9 {f : Nat} (h : f < 2147483648) : ¬ nI f = -9 := fun z => by
  have := congrArg Int32.toInt z
  rw [nI_toInt h, show (-9 : Int32).toInt = -9 by decide] at this
  omega
theorem faI_0 {d : Nat} (h : d < 2147483648) : faI d = -9 ↔ d = 0 := by
  unfold faI
  by_cases c : d = 0
  · rw [if_pos c]; exact ⟨fun _ => c, fun _ => rfl⟩
  · rw [if_neg c]; exact ⟨fun z => absurd z (nI_m9 (by omega)), fun z => absurd z c⟩
/-- the walk's rows -/
def isWk (h : xHp) (B n : Nat) (s : Bs) : Prop := (∃ fa, xat h (B + 6) (xia 5040 fa) ∧ ∀ x, x < fct n → fa x = faI (bd s x)) ∧ ∃ li, xat h (B + 7) (xia 5040 li) ∧ ∀ j, j < bc s → li j = nI (bf s j)
theorem isWk.fr {h h' : xHp} {B n lo hi : Nat} {s : Bs} (w : isWk h B n s) (f : frm h h' lo hi) (hd : B + 8 ≤ lo ∨ hi ≤ B + 6) : isWk h' B n s := by
  obtain ⟨⟨fa, w1, w2⟩, ⟨li, w3, w4⟩⟩ := w
  exact ⟨⟨fa, xat_fr w1 f (by omega), w2⟩, ⟨li, xat_fr w3 f (by omega), w4⟩⟩
/-- the object with its fields -/
def isMO (h : xHp) (B : Nat) (ω : Wv) (F tx : Nat → Int32) (lines mw spot : Int32) : Prop := xat h B (obM B (nI ω.2.1.length) (nI (wT ω)) lines mw spot) ∧ isMF h B ω F tx
theorem isMO.sc {h h' : xHp} {B c : Nat} {ω : Wv} {F tx : Nat → Int32} {lines mw spot : Int32} (w : isMO h B ω F tx lines mw spot) (f : frm h h' (B + c) (B + c + 1)) (hc : 3 ≤ c) (hx : ∃ g, xat h' (B + c) (xia (scN c) g)) : isMO h' B ω F tx lines mw spot := ⟨xat_fr w.1 f (by omega), w.2.sc f hc hx⟩
theorem isMO.ob {h : xHp} {B : Nat} {ω : Wv} {F tx : Nat → Int32} {lines mw spot : Int32} (w : isMO h B ω F tx lines mw spot) (lines' mw' spot' : Int32) : isMO (xset h B (obM B (nI ω.2.1.length) (nI (wT ω)) lines' mw' spot')) B ω F tx lines' mw' spot' := ⟨xat_sf w.1.1, w.2.ob (frm_set frm_rf (by omega) (by omega)) (xat_sf w.1.1)⟩
theorem sp_Mo_walks {h : xHp} {B set : Nat} {ω : Wv} {F tx : Nat → Int32} (w : isMF h B ω F tx) (k : wok ω) (h64 : set < 64) : SpecR g_Mo_walks [.ref B, .int (nI set)] h (fun v h' => v = none ∧ (∃ mw spot, isMO h' B ω F tx (nI (bc (bfs (wN ω) set (wG ω)))) mw spot) ∧ isWk h' B (wN ω) (bfs (wN ω) set (wG ω)) ∧ frm h h' B (B + 14)) := by
  obtain ⟨fs, hrc⟩ := bM_rc w.b
  have hn1 : 2 ≤ wN ω := k.1.1
  have hn : wN ω ≤ 7 := k.1.2.1
  have hG : ∀ r, r < 6 → PM (wN ω) (wG ω r) := k.1.2.2.2.1
  have h5 := fct_le hn
  have hfp := fct_pos (wN ω)
  generalize hX : bfs (wN ω) set (wG ω) = X
  unfold bfs at hX
  refine SpecR.of (by decide +kernel) (Nat.le_of_ble_eq_true rfl) (fun c hc => by cases hc; exact ⟨_, _, _, rfl, hrc⟩) (fun v h' z => ⟨z.1, z.2.2.2.1, z.2.2.2.2.1⟩) (fun Q hQ => ?_)
  -- the walk itself
  have at45 : ∀ m, m ≤ fct (wN ω) → ∀ (k1 : xHp) (s : Bs) (mw spot : Int32), frm h k1 B (B + 14) → isMO k1 B ω F tx (nI (bc s)) mw spot → isWk k1 B (wN ω) s → BI (wN ω) s → bou (wN ω) set (wG ω) (fct (wN ω) - m) m s = X → xAt (h.1, h.2.1) g_Mo_walks Q 45 [(0, .ref B), (1, .int (nI set)), (2, .int (nI m))] [] k1 := by
    refine up_loop (P := fun m => ∀ (k1 : xHp) (s : Bs) (mw spot : Int32), frm h k1 B (B + 14) → isMO k1 B ω F tx (nI (bc s)) mw spot → isWk k1 B (wN ω) s → BI (wN ω) s → bou (wN ω) set (wG ω) (fct (wN ω) - m) m s = X → xAt (h.1, h.2.1) g_Mo_walks Q 45 [(0, .ref B), (1, .int (nI set)), (2, .int (nI m))] [] k1) (fct (wN ω)) ?_ (fun m hm ih => ?_)
    · intro k1 s mw spot fr1 w1 wk hb he
      have hle := BI_le hb
      rw [Nat.sub_self] at he
      have he : s = X := he
      subst he
      refine xgoal [(45, [0, 1, 2]), (55, [0, 1, 2, 3])] 100 ok_Mo_walks ?_
      refine xgf w1.1 rfl ?_
      exact pk_le (bc s) (fct (wN ω)) (fun _ => hQ _ _ ⟨rfl, ⟨_, _, w1⟩, wk, fr1⟩) (fun z => absurd z (by omega))
    · intro k1 s mw spot fr1 w1 wk hb he
      have hle := BI_le hb
      rw [show fct (wN ω) - m = (fct (wN ω) - (m + 1)) + 1 by omega] at he
      unfold bou at he
      refine xgoal [(45, [0, 1, 2]), (55, [0, 1, 2, 3])] 100 ok_Mo_walks ?_
      refine xgf w1.1 rfl ?_
      refine pk_le (bc s) m (fun z => ?_) (fun z => ?_)
      · rw [if_neg (by omega)] at he
        subst he
        exact hQ _ _ ⟨rfl, ⟨_, _, w1⟩, wk, fr1⟩
      · rw [if_pos z] at he
        obtain ⟨hx, hx0⟩ := hb.1 m z
        have hD := hb.2.2.2 (bf s m)
        generalize hxx : bf s m = x at *
        generalize hDD : bd s x = D at *
        have hpm := unr_PM (wN ω) x
        refine up_loop (P := fun r => ∀ (k2 : xHp) (mw spot : Int32), frm h k2 B (B + 14) → isMO k2 B ω F tx (nI (bc (bin (wN ω) set (wG ω) x D r s))) mw spot → isWk k2 B (wN ω) (bin (wN ω) set (wG ω) x D r s) → xAt (h.1, h.2.1) g_Mo_walks Q 55 [(0, .ref B), (1, .int (nI set)), (2, .int (nI m)), (3, .int (nI r))] [] k2) 6 ?_ (fun r hr ihr => ?_) 0 (Nat.zero_le _) k1 mw spot fr1 w1 wk
        · intro k2 mw spot fr2 w2 wk2
          refine xgoal [(45, [0, 1, 2]), (55, [0, 1, 2, 3])] 100 ok_Mo_walks ?_
          refine pk_le 6 6 (fun _ => ?_) (fun z => absurd z (by omega))
          have ih := ih k2 _ _ _ fr2 w2 wk2 (bin_BI hb hD 6).1 he
          rw [← nI_1 m] at ih
          exact ih
        · intro k2 mw spot fr2 w2 wk2
          obtain ⟨q1, q2⟩ := bin_BI (set := set) (x := x) (G := wG ω) hb hD r
          unfold bin at ihr
          generalize bin (wN ω) set (wG ω) x D r s = s' at *
          have eb : nI set >>> (nI r &&& 31) &&& nI 1 = nI (set / 2 ^ r % 2) := by
            rw [n_shr (by omega) (by omega), n_and, show (1 : Nat) = 2 ^ 1 - 1 from rfl, Nat.and_two_pow_sub_one_eq_mod]
          refine xgoal [(45, [0, 1, 2]), (55, [0, 1, 2, 3])] 100 ok_Mo_walks ?_
          refine pk_le 6 r (fun z => absurd z (by omega)) (fun _ => ?_)
          refine pk_eq (set / 2 ^ r % 2) 1 (fun cs => ?_) (fun cs => ?_) eb rfl
          · rw [if_pos cs] at ihr
            obtain ⟨⟨fa, fa1, fa2⟩, ⟨li, li1, li2⟩⟩ := id wk2
            have hms : m < bc s' := Nat.lt_of_lt_of_le z q2.1
            have eli : li m = nI x := by rw [li2 m hms, q2.2.1 m z, hxx]
            have hle2 := BI_le q1
            refine xgf w2.1 rfl ?_
            refine xal li1 rfl (show m < 5040 by omega) (by decide) ?_
            refine xgf w2.1 rfl ?_
            have sp := sp_Mo_unranks (k := x) w2.2.b (by omega) hn (by omega) (w2.2.rw_ (c := 3) (by omega) (by omega)) (by omega)
            rw [← eli] at sp
            refine xrv sp ?_
            rintro h3 ⟨-, r3, fr3⟩
            have w3 := w2.sc (c := 3) fr3 (by omega) r3.sh
            have wk3 := wk2.fr fr3 (by omega)
            refine xgf w3.1 rfl ?_
            refine xrv (sp_Mo_takes (c := B + 4) w3.2.b hn hr (w3.2.rg hr) (w3.2.rw_ (by omega) (by omega)) (by omega)) ?_
            rintro h4 ⟨-, r4, fr4⟩
            have w4 := w3.sc (c := 4) fr4 (by omega) r4.sh
            have wk4 := wk3.fr fr4 (by omega)
            refine xgf w4.1 rfl ?_
            refine xgf w4.1 rfl ?_
            refine xgf w4.1 rfl ?_
            refine xrv (sp_Mo_multiplies w4.2.b hn (r3.fr fr4 (by omega)) r4 (hG r hr).1 (w4.2.rw_ (c := 5) (by omega) (by omega)) (by omega) (by omega) (by omega)) ?_
            rintro h5' ⟨-, r5, fr5⟩
            have w5 := w4.sc (c := 5) fr5 (by omega) r5.sh
            have wk5 := wk4.fr fr5 (by omega)
            have frh := frm_tr (frm_tr (frm_tr fr2 fr3 (by omega) (by omega)) fr4 (by omega) (by omega)) fr5 (by omega) (by omega)
            refine xgf w5.1 rfl ?_
            have sp := sp_Mo_rank w5.2.b hn r5 (PM8 hn (PM_comp hpm (hG r hr)))
            have hto : mlr (wN ω) x (wG ω r) < fct (wN ω) := rank_lt _ _
            have hq := q1.2.2.2 (mlr (wN ω) x (wG ω r))
            have hb2 := (bnote_BI q1 hto (Nat.le_trans hD q2.1)).1
            have hle3 := BI_le hb2
            have sp : Spec g_Mo_rank [.ref B, .ref (B + 5)] h5' (some (.int (nI (mlr (wN ω) x (wG ω r))))) h5' := sp
            generalize mlr (wN ω) x (wG ω r) = to at *
            obtain ⟨⟨fb, fb1, fb2⟩, ⟨lj, lj1, lj2⟩⟩ := id wk5
            refine xci sp ?_
            refine xgf w5.1 rfl ?_
            refine xal fb1 rfl (show to < 5040 by omega) (by decide) ?_
            unfold bnote at ihr hle3
            refine And.intro (fun cz => ?_) (fun cz => ?_)
            · rw [fb2 to hto, faI_0 (by omega)] at cz
              rw [if_pos cz] at ihr hle3
              have hle3 : bc s' + 1 ≤ fct (wN ω) := hle3
              have elj : lj m = nI x := by rw [lj2 m hms, q2.2.1 m z, hxx]
              have ebx : bd s' x = D := by rw [← hDD]; exact q2.2.2 x (by rw [hDD]; exact hx0)
              have efx : fb x + nI 1 = nI D := by
                rw [fb2 x hx, ebx]; unfold faI; rw [if_neg hx0, nI_add]; congr 1; omega
              refine xgf w5.1 rfl ?_
              refine xgf w5.1 rfl ?_
              refine xgf w5.1 rfl ?_
              refine xal lj1 rfl (show m < 5040 by omega) (by decide) ?_
              refine xal fb1 elj (show x < 5040 by omega) (by decide) ?_
              refine xal fb1 rfl (show to < 5040 by omega) (by decide) ?_
              have fa6 : frm h5' (xset h5' (B + 6) (xia 5040 (upd fb to (fb x + nI 1)))) (B + 6) (B + 6 + 1) := frm_set frm_rf (by omega) (by omega)
              have w6 := w5.sc (c := 6) fa6 (by omega) ⟨_, xat_sf fb1.1⟩
              refine xgf w6.1 rfl ?_
              refine xgf w6.1 rfl ?_
              refine xal (xat_set lj1 (by omega)) rfl (show bc s' < 5040 by omega) (by decide) ?_
              have fa7 : frm (xset h5' (B + 6) (xia 5040 (upd fb to (fb x + nI 1)))) (xset (xset h5' (B + 6) (xia 5040 (upd fb to (fb x + nI 1)))) (B + 7) (xia 5040 (upd lj (bc s') (nI to)))) (B + 7) (B + 7 + 1) := frm_set frm_rf (by omega) (by omega)
              have w7 := w6.sc (c := 7) fa7 (by omega) ⟨_, xat_sf (h := xset _ _ _) lj1.1⟩
              refine xgf w7.1 rfl ?_
              refine xpf w7.1 (Nat.le_of_ble_eq_true rfl) rfl ?_
              have w8 := w7.ob (nI (bc s') + nI 1) mw spot
              have ihr := ihr _ mw spot (frm_set (a := B) (frm_tr (frm_tr frh fa6 (by omega) (by omega)) fa7 (by omega) (by omega)) (by omega) (by omega)) (by show isMO _ B ω F tx (nI (bc s' + 1)) mw spot; rw [← nI_1 (bc s')]; exact w8) ⟨⟨_, xat_set (xat_set (xat_sf fb1.1) (by omega)) (by omega), fun y hy => by
                show upd fb to _ y = faI (upn (bd s') to (D + 1) y)
                unfold upd upn
                by_cases e : y = to
                · rw [if_pos e, if_pos e, efx]; rfl
                · rw [if_neg e, if_neg e]; exact fb2 y hy⟩, ⟨_, xat_set (xat_sf (h := xset _ _ _) lj1.1) (by omega), fun j hj => by
                have hj : j < bc s' + 1 := hj
                show upd lj (bc s') _ j = nI (upn (bf s') (bc s') to j)
                unfold upd upn
                by_cases e : j = bc s'
                · rw [if_pos e, if_pos e]
                · rw [if_neg e, if_neg e]; exact lj2 j (by omega)⟩⟩
              rw [← nI_1 r] at ihr
              exact ihr
            · rw [fb2 to hto, faI_0 (by omega)] at cz
              rw [if_neg cz] at ihr
              have ihr := ihr h5' mw spot frh w5 wk5
              rw [← nI_1 r] at ihr
              exact ihr
          · rw [if_neg cs] at ihr
            have ihr := ihr k2 mw spot fr2 w2 wk2
            rw [← nI_1 r] at ihr
            exact ihr
  refine xgoal [(2, [0, 1, 2])] 100 ok_Mo_walks ?_
  obtain ⟨g6, g61⟩ := w.2.2.2.2 6 (by omega) (by omega)
  refine up_loop (P := fun x => ∀ (k1 : xHp) (g : Nat → Int32), frm h k1 (B + 6) (B + 6 + 1) → xat k1 (B + 6) (xia 5040 g) → (∀ y, y < x → g y = -9) → xAt (h.1, h.2.1) g_Mo_walks Q 2 [(0, .ref B), (1, .int (nI set)), (2, .int (nI x))] [] k1) (fct (wN ω)) ?_ (fun x hx ih => ?_) 0 (Nat.zero_le _) h g6 frm_rf g61 (fun y hy => absurd hy (Nat.not_lt_zero y))
  · intro k1 g fr1 g1 hg
    have w1 := w.sc (c := 6) fr1 (by omega) ⟨g, g1⟩
    obtain ⟨l1, m1, s1, o1⟩ := w1.1
    obtain ⟨g7, g71⟩ := w1.2.2.2.2 7 (by omega) (by omega)
    refine xgoal [(45, [0, 1, 2])] 100 ok_Mo_walks ?_
    refine xci (sp_Mo_factorial w1.b hn1 hn) ?_
    refine pk_le (fct (wN ω)) (fct (wN ω)) (fun _ => ?_) (fun z => absurd z (by omega))
    refine xgf o1 rfl ?_
    refine xal g1 rfl (show 0 < 5040 by omega) (by decide) ?_
    have fa6 : frm k1 (xset k1 (B + 6) (xia 5040 (upd g 0 (nI 0)))) (B + 6) (B + 6 + 1) := frm_set frm_rf (by omega) (by omega)
    have w2 : isMO _ B ω F tx l1 m1 s1 := isMO.sc (c := 6) ⟨o1, w1⟩ fa6 (by omega) ⟨_, xat_sf g1.1⟩
    refine xgf w2.1 rfl ?_
    refine xal (xat_set g71 (by omega)) rfl (show 0 < 5040 by omega) (by decide) ?_
    have fa7 : frm (xset k1 (B + 6) (xia 5040 (upd g 0 (nI 0)))) (xset (xset k1 (B + 6) (xia 5040 (upd g 0 (nI 0)))) (B + 7) (xia 5040 (upd g7 0 (nI 0)))) (B + 7) (B + 7 + 1) := frm_set frm_rf (by omega) (by omega)
    have w3 := w2.sc (c := 7) fa7 (by omega) ⟨_, xat_sf (h := xset _ _ _) g71.1⟩
    refine xpf w3.1 (Nat.le_of_ble_eq_true rfl) rfl ?_
    have w4 := w3.ob (nI 1) m1 s1
    refine at45 0 (Nat.zero_le _) _ bs0 m1 s1 (frm_set (frm_tr (frm_tr (frm_wd fr1 (show B ≤ B + 6 by omega) (show B + 6 + 1 ≤ B + 14 by omega)) fa6 (by omega) (by omega)) fa7 (by omega) (by omega)) (by omega) (by omega)) w4 ⟨⟨_, xat_set (xat_set (xat_sf g1.1) (by omega)) (by omega), fun y hy => ?_⟩, ⟨_, xat_set (xat_sf (h := xset _ _ _) g71.1) (by omega), fun j hj => ?_⟩⟩ (bs0_BI _) hX
    · rw [bs0_bd]
      unfold upd
      by_cases e : y = 0
      · rw [if_pos e, if_pos e]; rfl
      · rw [if_neg e, if_neg e]; exact hg y hy
    · have hj : j < 1 := hj
      rw [bs0_bf]
      unfold upd
      rw [if_pos (by omega)]
  · intro k1 g fr1 g1 hg
    have w1 := w.sc (c := 6) fr1 (by omega) ⟨g, g1⟩
    obtain ⟨l1, m1, s1, o1⟩ := w1.1
    refine xgoal [(2, [0, 1, 2]), (45, [0, 1, 2])] 100 ok_Mo_walks ?_
    refine xci (sp_Mo_factorial w1.b hn1 hn) ?_
    refine pk_le (fct (wN ω)) x (fun z => absurd z (by omega)) (fun _ => ?_)
    refine xgf o1 rfl ?_
    refine xal g1 rfl (show x < 5040 by omega) (by decide) ?_
    have ih := ih (xset k1 (B + 6) (xia 5040 (upd g x (-9)))) _ (frm_set fr1 (by omega) (by omega)) (xat_sf g1.1) (fun y hy => by
      unfold upd
      by_cases e : y = x
      · rw [if_pos e]
      · rw [if_neg e]; exact hg y (by omega))
    rw [← nI_1 x] at ih
    exact ih
theorem sp_Mo_generated {h : xHp} {B : Nat} {ω : Wv} {a : Int32} (w : isM h B ω) (k : wok ω) : SpecR g_Mo_generated [.ref B, .int a] h (pM h B (stGenerated ω a)) := by
  obtain ⟨F, tx, w⟩ := w
  obtain ⟨fs, hrc⟩ := bM_rc w.b
  refine SpecR.of (by decide +kernel) (Nat.le_of_ble_eq_true rfl) (fun c hc => by cases hc; exact ⟨_, _, _, rfl, hrc⟩) (fun v h' z => ⟨⟨_, z.1⟩, z.2.2.1, z.2.2.2.1⟩) (fun Q hQ => ?_)
  generalize hO : stGenerated ω a = o at hQ
  unfold stGenerated at hO
  have bad : ∀ c, (c, ω) = o → Q (some (.int c)) h := fun c e => by subst e; exact hQ _ _ ⟨rfl, ⟨F, tx, w⟩, frm_rf⟩
  have fin : ∀ (v : Int32) (ω' : Wv) (h' : xHp) (F' tx' : Nat → Int32), (v, ω') = o → isMF h' B ω' F' tx' → frm h h' B (B + 14) → Q (some (.int v)) h' := fun v ω' h' F' tx' e w' f => by subst e; exact hQ _ _ ⟨rfl, ⟨F', tx', w'⟩, f⟩
  have hn1 : 2 ≤ wN ω := k.1.1
  have hn : wN ω ≤ 7 := k.1.2.1
  have hS : ∀ i, i < wN ω → sS ω.1 i < 4 := k.1.2.2.1
  have hG : ∀ r, r < 6 → PM (wN ω) (wG ω r) := k.1.2.2.2.1
  have hP : pok (wN ω) (wP ω) := k.1.2.2.2.2
  refine xgoal [] 100 ok_Mo_generated ?_
  refine xci (sp_Mo_isSet a h) ?_
  refine gdX (fun z => ?_) (fun i hi e hlt => ?_)
  · rw [gdN z] at hO; exact bad _ hO
  subst e
  rw [gdS hi] at hO
  refine xrv (sp_Mo_walks w k hlt) ?_
  rintro h1 ⟨-, ⟨mw, spot, w1⟩, -, fr1⟩
  refine xgf w1.1 rfl ?_
  exact fin _ _ h1 F tx hO w1.2 fr1
theorem sp_Mo_reach {h : xHp} {B : Nat} {ω : Wv} {a r : Int32} (w : isM h B ω) (k : wok ω) : SpecR g_Mo_reach [.ref B, .int a, .int r] h (pM h B (stReach ω a r)) := by
  obtain ⟨F, tx, w⟩ := w
  obtain ⟨fs, hrc⟩ := bM_rc w.b
  refine SpecR.of (by decide +kernel) (Nat.le_of_ble_eq_true rfl) (fun c hc => by cases hc; exact ⟨_, _, _, rfl, hrc⟩) (fun v h' z => ⟨⟨_, z.1⟩, z.2.2.1, z.2.2.2.1⟩) (fun Q hQ => ?_)
  generalize hO : stReach ω a r = o at hQ
  unfold stReach at hO
  have bad : ∀ c, (c, ω) = o → Q (some (.int c)) h := fun c e => by subst e; exact hQ _ _ ⟨rfl, ⟨F, tx, w⟩, frm_rf⟩
  have fin : ∀ (v : Int32) (ω' : Wv) (h' : xHp) (F' tx' : Nat → Int32), (v, ω') = o → isMF h' B ω' F' tx' → frm h h' B (B + 14) → Q (some (.int v)) h' := fun v ω' h' F' tx' e w' f => by subst e; exact hQ _ _ ⟨rfl, ⟨F', tx', w'⟩, f⟩
  have hn1 : 2 ≤ wN ω := k.1.1
  have hn : wN ω ≤ 7 := k.1.2.1
  have hS : ∀ i, i < wN ω → sS ω.1 i < 4 := k.1.2.2.1
  have hG : ∀ r, r < 6 → PM (wN ω) (wG ω r) := k.1.2.2.2.1
  have hP : pok (wN ω) (wP ω) := k.1.2.2.2.2
  refine xgoal [] 100 ok_Mo_reach ?_
  refine xci (sp_Mo_isSet a h) ?_
  refine gdX (fun z => ?_) (fun i hi e hlt => ?_)
  · rw [gdN z] at hO; exact bad _ hO
  subst e
  rw [gdS hi] at hO
  refine xci (sp_Mo_isRegister r h) ?_
  refine gdX (fun z => ?_) (fun x hx e hx6 => ?_)
  · rw [gdN z] at hO; exact bad _ hO
  subst e
  rw [gdS hx] at hO
  have h5 := fct_le hn
  have hrk := rank_lt (wN ω) (wG ω x)
  refine xrv (sp_Mo_walks w k hlt) ?_
  rintro h1 ⟨-, ⟨mw, spot, w1⟩, wk1, fr1⟩
  refine xgf w1.1 rfl ?_
  refine xtakes (c := 3) w1.2 hn hx6 (by omega) (by omega) (fun h2 w2 r2 fr2 => ?_)
  obtain ⟨l2, m2, s2, o2⟩ := w2.1
  have wk2 := wk1.fr fr2 (by omega)
  obtain ⟨⟨fa, fa1, fa2⟩, -⟩ := wk2
  refine xgf o2 rfl ?_
  refine xgf o2 rfl ?_
  refine xci (sp_Mo_rank w2.b hn r2 (PM8 hn (hG x hx6))) ?_
  refine xal fa1 rfl (show rank (wN ω) (wG ω x) < 5040 by omega) (by decide) ?_
  have := fin _ _ h2 F tx hO w2 (frm_tr fr1 fr2 (by omega) (by omega))
  have e : fa (rank (wN ω) (wG ω x)) = (if bd (bfs (wN ω) i (wG ω)) (rank (wN ω) (wG ω x)) = 0 then -9 else nI (bd (bfs (wN ω) i (wG ω)) (rank (wN ω) (wG ω x)) - 1)) := fa2 _ hrk
  rw [← e] at this
  exact this
theorem sp_Mo_rests {h : xHp} {B r : Nat} {ω : Wv} {F tx : Nat → Int32} {f : Nat → Nat} (w : isMF h B ω F tx) (k : wok ω) (hr : r < 6) (hf : PM (wN ω) f) (hrow : isRw h (B + 3) (wN ω) f) : SpecR g_Mo_rests [.ref B, .int (nI r)] h (fun v h' => v = none ∧ isMF h' B ω F tx ∧ isRw h' (B + 5) (wN ω) (wo (wN ω) (wG ω r) f) ∧ frm h h' (B + 4) (B + 6)) := by
  obtain ⟨fs, hrc⟩ := bM_rc w.b
  have hn : wN ω ≤ 7 := k.1.2.1
  have hg : PM (wN ω) (wG ω r) := k.1.2.2.2.1 r hr
  refine SpecR.of (by decide +kernel) (Nat.le_of_ble_eq_true rfl) (fun c hc => by cases hc; exact ⟨_, _, _, rfl, hrc⟩) (fun v h' z => ⟨z.1, z.2.2.2.1, z.2.2.2.2.1⟩) (fun Q hQ => ?_)
  obtain ⟨l0, m0, s0, o0⟩ := w.1
  refine xgoal [(11, [0, 2]), (21, [0, 2, 3])] 100 ok_Mo_rests ?_
  refine xgf o0 rfl ?_
  refine xtakes (c := 4) w hn hr (by omega) (by omega) (fun h1 w1 r1 fr1 => ?_)
  obtain ⟨u1, p1, q1⟩ := id r1
  obtain ⟨u0, p0, q0⟩ := hrow.fr fr1 (by omega)
  obtain ⟨u3, p3⟩ := w1.rw_ (c := 5) (by omega) (by omega)
  refine up_loop (P := fun i => ∀ (k1 : xHp) (u : Nat → Int32), frm h1 k1 (B + 5) (B + 5 + 1) → xat k1 (B + 5) (xia 7 u) → (∀ j, j < i → u j = nI (wo (wN ω) (wG ω r) f j)) → xAt (h.1, h.2.1) g_Mo_rests Q 11 [(0, .ref B), (2, .int (nI i))] [] k1) (wN ω) ?_ (fun i hi ih => ?_) 0 (Nat.zero_le _) h1 u3 frm_rf p3 (fun j hj => absurd hj (Nat.not_lt_zero j))
  · intro k1 u fr2 g1 hu
    have w2 := w1.sc (c := 5) fr2 (by omega) ⟨u, g1⟩
    refine xgoal [(11, [0, 2]), (21, [0, 2, 3])] 100 ok_Mo_rests ?_
    refine xci (sp_Mo_size w2.b) ?_
    exact pk_le (wN ω) (wN ω) (fun _ => hQ _ _ ⟨rfl, w2, ⟨u, g1, hu⟩, frm_tr (frm_wd fr1 (Nat.le_refl (B + 4)) (show B + 4 + 1 ≤ B + 6 by omega)) fr2 (by omega) (by omega)⟩) (fun z => absurd z (by omega))
  · intro k1 u fr2 g1 hu
    have w2 := w1.sc (c := 5) fr2 (by omega) ⟨u, g1⟩
    have hfi := hf.1 i hi
    refine xgoal [(11, [0, 2]), (21, [0, 2, 3])] 100 ok_Mo_rests ?_
    refine xci (sp_Mo_size w2.b) ?_
    refine pk_le (wN ω) i (fun z => absurd z (by omega)) (fun _ => ?_)
    have gi := get_inv hg hfi
    refine up_loop (P := fun t => ∀ (k1 : xHp) (u : Nat → Int32), frm h1 k1 (B + 5) (B + 5 + 1) → xat k1 (B + 5) (xia 7 u) → (∀ j, j < i → u j = nI (wo (wN ω) (wG ω r) f j)) → (inv (wN ω) (wG ω r) (f i) < t → u i = nI (wo (wN ω) (wG ω r) f i)) → xAt (h.1, h.2.1) g_Mo_rests Q 21 [(0, .ref B), (2, .int (nI i)), (3, .int (nI t))] [] k1) (wN ω) ?_ (fun t ht iht => ?_) 0 (Nat.zero_le _) k1 u fr2 g1 hu (fun z => absurd z (Nat.not_lt_zero _))
    · intro k1 u fr2 g1 hu hui
      have w2 := w1.sc (c := 5) fr2 (by omega) ⟨u, g1⟩
      refine xgoal [(11, [0, 2]), (21, [0, 2, 3])] 100 ok_Mo_rests ?_
      refine xci (sp_Mo_size w2.b) ?_
      refine pk_le (wN ω) (wN ω) (fun _ => ?_) (fun z => absurd z (by omega))
      have ih := ih k1 u fr2 g1 (fun j hj => by
        by_cases e : j = i
        · rw [e]; exact hui gi.1
        · exact hu j (by omega))
      rw [← nI_1 i] at ih
      exact ih
    · intro k1 u fr2 g1 hu hui
      have w2 := w1.sc (c := 5) fr2 (by omega) ⟨u, g1⟩
      obtain ⟨l2, m2, s2, o2⟩ := w2.1
      have hgt := hg.1 t ht
      refine xgoal [(11, [0, 2]), (21, [0, 2, 3])] 100 ok_Mo_rests ?_
      refine xci (sp_Mo_size w2.b) ?_
      refine pk_le (wN ω) t (fun z => absurd z (by omega)) (fun _ => ?_)
      refine xgf o2 rfl ?_
      refine xgf o2 rfl ?_
      refine xal (xat_fr p1 fr2 (by omega)) rfl (show t < 7 by omega) (by decide) ?_
      refine xgf o2 rfl ?_
      refine xal (xat_fr p0 fr2 (by omega)) rfl (show i < 7 by omega) (by decide) ?_
      refine pk_eq (wG ω r t) (f i) (fun z => ?_) (fun z => ?_) (q1 t ht) (q0 i hi)
      · have et : inv (wN ω) (wG ω r) (f i) = t := by rw [← z]; exact inv_get hg ht
        refine xal g1 rfl (show i < 7 by omega) (by decide) ?_
        have iht := iht (xset k1 (B + 5) (xia 7 (upd u i (nI t)))) _ (frm_set fr2 (by omega) (by omega)) (xat_sf g1.1) (fun j hj => by unfold upd; rw [if_neg (by omega)]; exact hu j hj) (fun _ => by unfold upd; rw [if_pos rfl]; show nI t = nI (inv (wN ω) (wG ω r) (f i)); rw [et])
        rw [← nI_1 t] at iht
        exact iht
      · have et : inv (wN ω) (wG ω r) (f i) ≠ t := fun y => z (by rw [← y]; exact gi.2)
        refine xgf o2 rfl ?_
        refine xal g1 rfl (show i < 7 by omega) (by decide) ?_
        refine xal g1 rfl (show i < 7 by omega) (by decide) ?_
        have iht := iht (xset k1 (B + 5) (xia 7 (upd u i (u i)))) _ (frm_set fr2 (by omega) (by omega)) (xat_sf g1.1) (fun j hj => by unfold upd; rw [if_neg (by omega)]; exact hu j hj) (fun y => by unfold upd; rw [if_pos rfl]; exact hui (by omega))
        rw [← nI_1 t] at iht
        exact iht
theorem sp_Mo_factor {h : xHp} {B : Nat} {ω : Wv} {a r b : Int32} (w : isM h B ω) (k : wok ω) : SpecR g_Mo_factor [.ref B, .int a, .int r, .int b] h (pM h B (stFactor ω a r b)) := by
  obtain ⟨F, tx, w⟩ := w
  obtain ⟨fs, hrc⟩ := bM_rc w.b
  refine SpecR.of (by decide +kernel) (Nat.le_of_ble_eq_true rfl) (fun c hc => by cases hc; exact ⟨_, _, _, rfl, hrc⟩) (fun v h' z => ⟨⟨_, z.1⟩, z.2.2.1, z.2.2.2.1⟩) (fun Q hQ => ?_)
  generalize hO : stFactor ω a r b = o at hQ
  unfold stFactor at hO
  have bad : ∀ c, (c, ω) = o → Q (some (.int c)) h := fun c e => by subst e; exact hQ _ _ ⟨rfl, ⟨F, tx, w⟩, frm_rf⟩
  have fin : ∀ (v : Int32) (ω' : Wv) (h' : xHp) (F' tx' : Nat → Int32), (v, ω') = o → isMF h' B ω' F' tx' → frm h h' B (B + 14) → Q (some (.int v)) h' := fun v ω' h' F' tx' e w' f => by subst e; exact hQ _ _ ⟨rfl, ⟨F', tx', w'⟩, f⟩
  have hn1 : 2 ≤ wN ω := k.1.1
  have hn : wN ω ≤ 7 := k.1.2.1
  have hS : ∀ i, i < wN ω → sS ω.1 i < 4 := k.1.2.2.1
  have hG : ∀ r, r < 6 → PM (wN ω) (wG ω r) := k.1.2.2.2.1
  have hP : pok (wN ω) (wP ω) := k.1.2.2.2.2
  refine xgoal [(79, [0, 1, 3, 4, 5]), (107, [0, 1, 3, 4, 5, 6, 7]), (175, [0, 1, 3, 4, 5, 7])] 100 ok_Mo_factor ?_
  refine xci (sp_Mo_isSet a h) ?_
  refine gdX (fun z => ?_) (fun i hi e hlt => ?_)
  · rw [gdN z] at hO; exact bad _ hO
  subst e
  rw [gdS hi] at hO
  refine xci (sp_Mo_isRegister r h) ?_
  refine gdX (fun z => ?_) (fun x hx e hx6 => ?_)
  · rw [gdN z] at hO; exact bad _ hO
  subst e
  rw [gdS hx] at hO
  have hb := (bfs_CI (wN ω) i (wG ω)).1
  have h5 := fct_le hn
  have hle := BI_le hb
  have hbb := hb.2.2.2
  have hrk := rank_lt (wN ω)
  have hC := fun f (hf : PM (wN ω) f) h2 => bfs_C (set := i) hG hf h2
  generalize hS' : bfs (wN ω) i (wG ω) = s at *
  refine And.intro (fun z => ?_) (fun z => ?_)
  · rw [Int32.le_iff_toInt_le, nI_toInt (by omega)] at z
    rw [if_neg (by omega)] at hO
    have eb := n_of z
    have hb31 : b.toInt < 2 ^ 31 := Int32.toInt_lt b
    have hy31 : b.toInt.toNat < 2147483648 := by omega
    generalize b.toInt.toNat = y at hO eb hy31
    subst eb
    have spw := sp_Mo_walks w k hlt
    rw [hS'] at spw
    refine xrv spw ?_
    rintro h1 ⟨-, ⟨mw, spot, w1⟩, wk1, fr1⟩
    refine xgf w1.1 rfl ?_
    refine xtakes (c := 3) w1.2 hn hx6 (by omega) (by omega) (fun h2 w2 r2 fr2 => ?_)
    obtain ⟨l2, m2, s2, o2⟩ := w2.1
    have wk2 := wk1.fr fr2 (by omega)
    have fr2' := frm_tr fr1 fr2 (by omega) (by omega)
    obtain ⟨⟨fa, fa1, fa2⟩, -⟩ := id wk2
    have hb0 := hbb (rank (wN ω) (wG ω x))
    have hr0 := hrk (wG ω x)
    have spr := sp_Mo_rank w2.b hn r2 (PM8 hn (hG x hx6))
    refine xgf o2 rfl ?_
    refine xgf o2 rfl ?_
    refine xci spr ?_
    refine xal fa1 rfl (show rank (wN ω) (wG ω x) < 5040 by omega) (by decide) ?_
    refine And.intro (fun cz => ?_) (fun cz => ?_)
    · rw [fa2 _ hr0, faI_0 (by omega)] at cz
      rw [if_neg (by omega)] at hO
      exact fin _ _ h2 F tx hO w2 fr2'
    · rw [fa2 _ hr0, faI_0 (by omega)] at cz
      refine xgf o2 rfl ?_
      refine xgf o2 rfl ?_
      refine xci spr ?_
      refine xal fa1 rfl (show rank (wN ω) (wG ω x) < 5040 by omega) (by decide) ?_
      refine pk_lt y (bd s (rank (wN ω) (wG ω x)) - 1) (fun cy => ?_) (fun cy => ?_) rfl (by rw [fa2 _ hr0]; unfold faI; rw [if_neg cz])
      · rw [if_pos (by omega)] at hO
        have hfac0 : fac (wN ω) i (wG ω) s y (wG ω x) = fac (wN ω) i (wG ω) s y (wG ω x) := rfl
        -- one factor after the other
        have at107 : ∀ (j : Nat) (k1 : xHp) (f : Nat → Nat), j ≤ y → frm h k1 B (B + 14) → isMF k1 B ω F tx → isWk k1 B (wN ω) s → isRw k1 (B + 3) (wN ω) f → PM (wN ω) f → 2 ≤ bd s (rank (wN ω) f) → (∀ (k2 : xHp), frm h k2 B (B + 14) → isMF k2 B ω F tx → isWk k2 B (wN ω) s → isRw k2 (B + 3) (wN ω) (wo (wN ω) (wG ω (ff (wN ω) i (wG ω) s f)) f) → xAt (h.1, h.2.1) g_Mo_factor Q 79 [(0, .ref B), (1, .int (nI i)), (3, .int (nI y)), (4, .int (nI (ff (wN ω) i (wG ω) s f))), (5, .int (nI (j + 1)))] [] k2) → xAt (h.1, h.2.1) g_Mo_factor Q 107 [(0, .ref B), (1, .int (nI i)), (3, .int (nI y)), (4, .int (-9)), (5, .int (nI j)), (6, .int (nI (bd s (rank (wN ω) f) - 1))), (7, .int (nI 0))] [] k1 := by
          intro j k1 f hj frk wk' wkk rf hf h2f K
          have h6 := hC f hf h2f
          have hbf := hbb (rank (wN ω) f)
          -- the copy of the rest
          have at175 : ∀ (k2 : xHp), frm h k2 B (B + 14) → isMF k2 B ω F tx → isWk k2 B (wN ω) s → isRw k2 (B + 5) (wN ω) (wo (wN ω) (wG ω (ff (wN ω) i (wG ω) s f)) f) → xAt (h.1, h.2.1) g_Mo_factor Q 175 [(0, .ref B), (1, .int (nI i)), (3, .int (nI y)), (4, .int (nI (ff (wN ω) i (wG ω) s f))), (5, .int (nI j)), (7, .int (nI 0))] [] k2 := by
            intro k2 fr2 w2 wk2 r5
            obtain ⟨u5, p5, q5⟩ := r5
            obtain ⟨u3, p3⟩ := w2.rw_ (c := 3) (by omega) (by omega)
            refine up_loop (P := fun t => ∀ (k3 : xHp) (u : Nat → Int32), frm k2 k3 (B + 3) (B + 3 + 1) → xat k3 (B + 3) (xia 7 u) → (∀ q, q < t → u q = nI (wo (wN ω) (wG ω (ff (wN ω) i (wG ω) s f)) f q)) → xAt (h.1, h.2.1) g_Mo_factor Q 175 [(0, .ref B), (1, .int (nI i)), (3, .int (nI y)), (4, .int (nI (ff (wN ω) i (wG ω) s f))), (5, .int (nI j)), (7, .int (nI t))] [] k3) (wN ω) ?_ (fun t ht iht => ?_) 0 (Nat.zero_le _) k2 u3 frm_rf p3 (fun q hq => absurd hq (Nat.not_lt_zero q))
            · intro k3 u fr3 g1 hu
              have w3 := w2.sc (c := 3) fr3 (by omega) ⟨u, g1⟩
              refine xgoal [(79, [0, 1, 3, 4, 5]), (107, [0, 1, 3, 4, 5, 6, 7]), (175, [0, 1, 3, 4, 5, 7])] 100 ok_Mo_factor ?_
              refine xci (sp_Mo_size w3.b) ?_
              refine pk_le (wN ω) (wN ω) (fun _ => ?_) (fun z => absurd z (by omega))
              have K := K k3 (frm_tr fr2 fr3 (by omega) (by omega)) w3 (wk2.fr fr3 (by omega)) ⟨u, g1, hu⟩
              rw [← nI_1 j] at K
              exact K
            · intro k3 u fr3 g1 hu
              have w3 := w2.sc (c := 3) fr3 (by omega) ⟨u, g1⟩
              obtain ⟨l3, m3, s3, o3⟩ := w3.1
              refine xgoal [(79, [0, 1, 3, 4, 5]), (107, [0, 1, 3, 4, 5, 6, 7]), (175, [0, 1, 3, 4, 5, 7])] 100 ok_Mo_factor ?_
              refine xci (sp_Mo_size w3.b) ?_
              refine pk_le (wN ω) t (fun z => absurd z (by omega)) (fun _ => ?_)
              refine xgf o3 rfl ?_
              refine xgf o3 rfl ?_
              refine xal (xat_fr p5 fr3 (by omega)) rfl (show t < 7 by omega) (by decide) ?_
              refine xal g1 rfl (show t < 7 by omega) (by decide) ?_
              have iht := iht (xset k3 (B + 3) (xia 7 (upd u t (u5 t)))) _ (frm_set fr3 (by omega) (by omega)) (xat_sf g1.1) (fun q hq => by
                unfold upd
                by_cases e : q = t
                · rw [if_pos e, e]; exact q5 t ht
                · rw [if_neg e]; exact hu q (by omega))
              rw [← nI_1 t] at iht
              exact iht
          refine up_loop (P := fun q => ∀ k2 : xHp, frm h k2 B (B + 14) → isMF k2 B ω F tx → isWk k2 B (wN ω) s → isRw k2 (B + 3) (wN ω) f → ff (wN ω) i (wG ω) s f = sr (ffb (wN ω) i (wG ω) s f) (6 - q) q → xAt (h.1, h.2.1) g_Mo_factor Q 107 [(0, .ref B), (1, .int (nI i)), (3, .int (nI y)), (4, .int (-9)), (5, .int (nI j)), (6, .int (nI (bd s (rank (wN ω) f) - 1))), (7, .int (nI q))] [] k2) 6 ?_ (fun q hq ihq => ?_) 0 (Nat.zero_le _) k1 frk wk' wkk rf rfl
          · intro k2 _ _ _ _ he
            have : ff (wN ω) i (wG ω) s f = 6 := he
            omega
          · intro k2 fr2 w2 wk2 r2 he
            rw [show 6 - q = (6 - (q + 1)) + 1 by omega] at he
            unfold sr at he
            have eb : nI i >>> (nI q &&& 31) &&& nI 1 = nI (i / 2 ^ q % 2) := by
              rw [n_shr (by omega) (by omega), n_and, show (1 : Nat) = 2 ^ 1 - 1 from rfl, Nat.and_two_pow_sub_one_eq_mod]
            refine xgoal [(79, [0, 1, 3, 4, 5]), (107, [0, 1, 3, 4, 5, 6, 7]), (175, [0, 1, 3, 4, 5, 7])] 100 ok_Mo_factor ?_
            refine pk_le 6 q (fun z => absurd z (by omega)) (fun _ => ?_)
            refine And.intro (fun _ => ?_) (fun z => absurd rfl z)
            refine pk_eq (i / 2 ^ q % 2) 1 (fun cs => ?_) (fun cs => ?_) eb rfl
            · refine xrv (sp_Mo_rests w2 k hq hf r2) ?_
              rintro h3 ⟨-, w3, r3, fr3⟩
              have fr3' := frm_tr fr2 fr3 (by omega) (by omega)
              have wk3 := wk2.fr fr3 (by omega)
              obtain ⟨l3, m3, s3, o3⟩ := w3.1
              obtain ⟨⟨fb, fb1, fb2⟩, -⟩ := id wk3
              have hr3 := hrk (wo (wN ω) (wG ω q) f)
              have hb3 := hbb (rank (wN ω) (wo (wN ω) (wG ω q) f))
              refine xgf o3 rfl ?_
              refine xgf o3 rfl ?_
              refine xci (sp_Mo_rank w3.b hn r3 (PM8 hn (wo_PM (hG q hq) hf))) ?_
              refine xal fb1 rfl (show rank (wN ω) (wo (wN ω) (wG ω q) f) < 5040 by omega) (by decide) ?_
              have ec : fb (rank (wN ω) (wo (wN ω) (wG ω q) f)) = nI (bd s (rank (wN ω) f) - 1) - nI 1 ↔ bd s (rank (wN ω) (wo (wN ω) (wG ω q) f)) + 1 = bd s (rank (wN ω) f) := by
                rw [fb2 _ hr3, pk_sub (by omega)]
                unfold faI
                by_cases z : bd s (rank (wN ω) (wo (wN ω) (wG ω q) f)) = 0
                · rw [if_pos z]
                  exact ⟨fun y => absurd y.symm (nI_m9 (by omega)), fun y => by omega⟩
                · rw [if_neg z, nI_eq (by omega) (by omega)]; omega
              refine And.intro (fun z => ?_) (fun z => ?_)
              · rw [if_pos (show ffb (wN ω) i (wG ω) s f q = true from decide_eq_true ⟨cs, ec.mp z⟩)] at he
                -- found: the head once more, and out
                have out : xAt (h.1, h.2.1) g_Mo_factor Q 107 [(0, .ref B), (1, .int (nI i)), (3, .int (nI y)), (4, .int (nI q)), (5, .int (nI j)), (6, .int (nI (bd s (rank (wN ω) f) - 1))), (7, .int (nI (q + 1)))] [] h3 := by
                  rw [← he] at r3
                  have a175 := at175 h3 fr3' w3 wk3 r3
                  rw [he] at a175
                  refine xgoal [(79, [0, 1, 3, 4, 5]), (175, [0, 1, 3, 4, 5, 7])] 100 ok_Mo_factor ?_
                  refine pk_le 6 (q + 1) (fun _ => a175) (fun _ => ?_)
                  exact And.intro (fun y => absurd y (nI_m9 (by omega))) (fun _ => a175)
                rw [← nI_1 q] at out
                exact out
              · rw [if_neg (show ¬ ffb (wN ω) i (wG ω) s f q = true from fun y => z (ec.mpr (of_decide_eq_true y).2))] at he
                have ihq := ihq h3 fr3' w3 wk3 (r2.fr fr3 (by omega)) he
                rw [← nI_1 q] at ihq
                exact ihq
            · rw [if_neg (show ¬ ffb (wN ω) i (wG ω) s f q = true from fun y => cs (of_decide_eq_true y).1)] at he
              have ihq := ihq k2 fr2 w2 wk2 r2 he
              rw [← nI_1 q] at ihq
              exact ihq
        have at79 : ∀ j, j ≤ y → ∀ (k1 : xHp) (f : Nat → Nat) (v4 : Int32), frm h k1 B (B + 14) → isMF k1 B ω F tx → isWk k1 B (wN ω) s → isRw k1 (B + 3) (wN ω) f → PM (wN ω) f → y - j + 2 ≤ bd s (rank (wN ω) f) → fac (wN ω) i (wG ω) s y (wG ω x) = fac (wN ω) i (wG ω) s (y - j) f → xAt (h.1, h.2.1) g_Mo_factor Q 79 [(0, .ref B), (1, .int (nI i)), (3, .int (nI y)), (4, .int v4), (5, .int (nI j))] [] k1 := by
          have enter : ∀ (j : Nat) (k1 : xHp) (f : Nat → Nat) (v4 : Int32), j ≤ y → frm h k1 B (B + 14) → isMF k1 B ω F tx → isWk k1 B (wN ω) s → isRw k1 (B + 3) (wN ω) f → PM (wN ω) f → 2 ≤ bd s (rank (wN ω) f) → (∀ (k2 : xHp), frm h k2 B (B + 14) → isMF k2 B ω F tx → isWk k2 B (wN ω) s → isRw k2 (B + 3) (wN ω) (wo (wN ω) (wG ω (ff (wN ω) i (wG ω) s f)) f) → xAt (h.1, h.2.1) g_Mo_factor Q 79 [(0, .ref B), (1, .int (nI i)), (3, .int (nI y)), (4, .int (nI (ff (wN ω) i (wG ω) s f))), (5, .int (nI (j + 1)))] [] k2) → xAt (h.1, h.2.1) g_Mo_factor Q 79 [(0, .ref B), (1, .int (nI i)), (3, .int (nI y)), (4, .int v4), (5, .int (nI j))] [] k1 := by
            intro j k1 f v4 hj fr1 w1 wk1 r1 hf h2f K
            obtain ⟨l1, m1, s1, o1⟩ := w1.1
            obtain ⟨⟨fb, fb1, fb2⟩, -⟩ := id wk1
            have hr3 := hrk f
            have hb3 := hbb (rank (wN ω) f)
            have a107 := at107 j k1 f hj fr1 w1 wk1 r1 hf h2f K
            have ef : fb (rank (wN ω) f) = nI (bd s (rank (wN ω) f) - 1) := by rw [fb2 _ hr3]; exact if_neg (by omega)
            rw [← ef] at a107
            refine xgoal [(107, [0, 1, 3, 4, 5, 6, 7])] 100 ok_Mo_factor ?_
            refine pk_lt y j (fun z => absurd z (by omega)) (fun _ => ?_)
            refine xgf o1 rfl ?_
            refine xgf o1 rfl ?_
            refine xci (sp_Mo_rank w1.b hn r1 (PM8 hn hf)) ?_
            exact xal fb1 rfl (show rank (wN ω) f < 5040 by omega) (by decide) a107
          refine up_loop (P := fun j => ∀ (k1 : xHp) (f : Nat → Nat) (v4 : Int32), frm h k1 B (B + 14) → isMF k1 B ω F tx → isWk k1 B (wN ω) s → isRw k1 (B + 3) (wN ω) f → PM (wN ω) f → y - j + 2 ≤ bd s (rank (wN ω) f) → fac (wN ω) i (wG ω) s y (wG ω x) = fac (wN ω) i (wG ω) s (y - j) f → xAt (h.1, h.2.1) g_Mo_factor Q 79 [(0, .ref B), (1, .int (nI i)), (3, .int (nI y)), (4, .int v4), (5, .int (nI j))] [] k1) y ?_ (fun j hj ih => ?_)
          · intro k1 f v4 fr1 w1 wk1 r1 hf h2f he
            rw [Nat.sub_self] at he h2f
            have he : fac (wN ω) i (wG ω) s y (wG ω x) = ff (wN ω) i (wG ω) s f := he
            refine enter y k1 f v4 (Nat.le_refl _) fr1 w1 wk1 r1 hf (by omega) (fun k2 fr2 w2 wk2 r2 => ?_)
            rw [he] at hO
            refine xgoal [(107, [0, 1, 3, 4, 5, 6, 7])] 100 ok_Mo_factor ?_
            refine pk_lt y (y + 1) (fun _ => fin _ _ k2 F tx hO w2 fr2) (fun z => absurd z (by omega)) rfl rfl (by omega) ?_
            have := hbb (rank (wN ω) f)
            have := hbb (rank (wN ω) (wG ω x))
            omega
          · intro k1 f v4 fr1 w1 wk1 r1 hf h2f he
            have h6 := hC f hf (by omega)
            obtain ⟨-, e1⟩ := ff_step h6
            rw [show y - j = (y - (j + 1)) + 1 by omega] at he
            refine enter j k1 f v4 (by omega) fr1 w1 wk1 r1 hf (by omega) (fun k2 fr2 w2 wk2 r2 => ?_)
            exact ih k2 _ _ fr2 w2 wk2 r2 (wo_PM (hG _ h6) hf) (by omega) he
        exact at79 0 (Nat.zero_le _) h2 (wG ω x) _ fr2' w2 wk2 r2 (hG x hx6) (by omega) rfl
      · rw [if_neg (by omega)] at hO
        exact fin _ _ h2 F tx hO w2 fr2'
  · rw [Int32.le_iff_toInt_le, nI_toInt (by omega)] at z
    rw [if_pos (by omega)] at hO
    exact bad _ hO
