/-! THE REFERENCE'S CALLS: the cost -/
def cq (p : Pv) (t i w : Nat) : Nat := if pst p t i = w then 0 else if plk p t / 2 ^ i % 2 = 1 then 1000 else 1
def pA (f : Nat → Nat) (p : Pv) (l w : Nat) : Nat → Nat := sumN (fun i => sumN (fun t => if itr f t i = l then cq p t i w else 0) (pc p))
def pB (f : Nat → Nat) (p : Pv) (i s l w : Nat) : Nat := pA f p l w i + sumN (fun t => if itr f t i = l then cq p t i w else 0) s
theorem sumN_0 : ∀ n, sumN (fun _ => 0) n = 0
  | 0 => rfl
  | n + 1 => sumN_0 n
theorem sumN_add (a b : Nat → Nat) : ∀ n, sumN (fun i => a i + b i) n = sumN a n + sumN b n
  | 0 => rfl
  | n + 1 => by
    have ih := sumN_add a b n
    show sumN (fun i => a i + b i) n + (a n + b n) = (sumN a n + a n) + (sumN b n + b n)
    omega
theorem sumN_swap (g : Nat → Nat → Nat) (m : Nat) : ∀ n, sumN (fun i => sumN (fun t => g i t) m) n = sumN (fun t => sumN (fun i => g i t) n) m
  | 0 => (sumN_0 m).symm
  | n + 1 => by
    have ih := sumN_swap g m n
    show sumN (fun i => sumN (fun t => g i t) m) n + sumN (fun t => g n t) m = sumN (fun t => sumN (fun i => g i t) n + g n t) m
    rw [sumN_add, ih]
theorem sumN_pick {j : Nat} {g : Nat → Nat} : ∀ n, sumN (fun i => if i = j then g i else 0) n = if j < n then g j else 0
  | 0 => by rw [if_neg (Nat.not_lt_zero j)]; rfl
  | n + 1 => by
    have ih := sumN_pick (j := j) (g := g) n
    show sumN (fun i => if i = j then g i else 0) n + (if n = j then g n else 0) = _
    rw [ih]
    by_cases e : n = j
    · subst e; rw [if_neg (Nat.lt_irrefl n), if_pos rfl, if_pos (by omega), Nat.zero_add]
    · by_cases c : j < n
      · rw [if_pos c, if_neg e, if_pos (by omega)]; omega
      · rw [if_neg c, if_neg e, if_neg (by omega)]
theorem pA_n {n l w : Nat} {f : Nat → Nat} {p : Pv} (hf : PM n f) (hl : l < n) : pA f p l w n = prP n f p l w := by
  unfold pA
  rw [sumN_swap]
  refine sumN_congr fun t _ => ?_
  rw [sumN_congr (g := fun i => if i = JJ n f t l then cq p t i w else 0) (fun i hi => by
    have := JJ_iff (t := t) hf hl hi
    by_cases c : i = JJ n f t l
    · rw [if_pos c, if_pos (this.mpr c)]
    · rw [if_neg c, if_neg (fun z => c (this.mp z))]), sumN_pick, if_pos (JJ_lt hf hl)]
  rfl
theorem pB_0 {i l w : Nat} {f : Nat → Nat} {p : Pv} : pB f p i 0 l w = pA f p l w i := rfl
theorem pB_C {i l w : Nat} {f : Nat → Nat} {p : Pv} : pB f p i (pc p) l w = pA f p l w (i + 1) := rfl
theorem pB_ne {i s l w : Nat} {f : Nat → Nat} {p : Pv} (h : itr f s i ≠ l) : pB f p i (s + 1) l w = pB f p i s l w := by
  show pA f p l w i + (sumN (fun t => if itr f t i = l then cq p t i w else 0) s + (if itr f s i = l then cq p s i w else 0)) = _
  rw [if_neg h]; rfl
theorem pB_eq {i s w : Nat} {f : Nat → Nat} {p : Pv} : pB f p i (s + 1) (itr f s i) w = pB f p i s (itr f s i) w + cq p s i w := by
  show pA f p (itr f s i) w i + (sumN (fun t => if itr f t i = itr f s i then cq p t i w else 0) s + (if itr f s i = itr f s i then cq p s i w else 0)) = _
  rw [if_pos rfl, ← Nat.add_assoc]; rfl
theorem pop_ct : ∀ n, n < 8 → ∀ x, x < 2 ^ n → ct (fun b => x.testBit b) n = pop x := by decide +kernel
theorem top_bit : ∀ n, n < 8 → ∀ w, w < n → (2 ^ n - 1) / 2 ^ w % 2 = 1 := by decide +kernel
theorem ct_bit (x j : Nat) : ct (fun b => x.testBit b) (j + 1) = ct (fun b => x.testBit b) j + x / 2 ^ j % 2 := by
  show _ + (if x.testBit j = true then 1 else 0) = _
  have e : x.testBit j = true ↔ x / 2 ^ j % 2 = 1 := by rw [Nat.testBit_eq_decide_div_mod_eq, decide_eq_true_eq]
  by_cases c : x / 2 ^ j % 2 = 1
  · rw [if_pos (e.mpr c), c]
  · rw [if_neg (fun z => c (e.mp z))]; omega
theorem isMF.pl {h h' : xHp} {B : Nat} {ω : Wv} {F tx : Nat → Int32} (w : isMF h B ω F tx) (f : frm h h' (B + 9) (B + 11)) (h9 : ∃ g, xat h' (B + 9) (xia 49 g)) (h10 : ∃ g, xat h' (B + 10) (xia 128 g)) : isMF h' B ω F tx := by
  obtain ⟨⟨lines, mw, spot, w0⟩, w1, w2, ⟨w3, w4⟩, w5⟩ := w
  refine ⟨⟨lines, mw, spot, xat_fr w0 f (by omega)⟩, xat_fr w1 f (by omega), w2, ⟨xat_fr w3 f (by omega), w4⟩, fun d d1 d2 => ?_⟩
  by_cases e : d = 9
  · subst e; exact h9
  · by_cases e : d = 10
    · subst e; exact h10
    · obtain ⟨g, g1⟩ := w5 d d1 d2
      exact ⟨g, xat_fr g1 f (by omega)⟩
def isPl (h : xHp) (B n : Nat) (f : Nat → Nat) (p : Pv) : Prop := (∃ pr, xat h (B + 9) (xia 49 pr) ∧ ∀ l, l < n → ∀ w, w < n → pr (7 * l + w) = nI (prP n f p l w)) ∧ ∃ le, xat h (B + 10) (xia 128 le) ∧ ∀ u, u < 2 ^ n → le u = nI (Lof n (pc p) (mM n (KPp n f p) (ALp n f p)) u)
theorem n_dm {a : Nat} (h : 0 < a) : nI a - nI 1 = nI a + -1 := by rw [pk_sub h, nI_dec h]
theorem Lof_b {n C u : Nat} {M : Nat → Nat} (hn : n ≤ 7) (hC : C ≤ 8) : Lof n C M u ≤ 1000 := by
  unfold Lof
  split
  · omega
  · have := mul78 (show n - pop u ≤ 7 by omega) hC; omega
theorem sp_Mo_costOf {h : xHp} {B c : Nat} {ω : Wv} {F tx : Nat → Int32} {f : Nat → Nat} (w : isMF h B ω F tx) (k : wok ω) (hf : PM (wN ω) f) (hc : isRw h c (wN ω) f) (hd : c = B + 3 ∨ c = B + 4) : SpecR g_Mo_costOf [.ref B, .ref c] h (fun v h' => v = some (.int (cstI (wN ω) f (wP ω))) ∧ isMF h' B ω F tx ∧ isPl h' B (wN ω) f (wP ω) ∧ frm h h' (B + 9) (B + 11)) := by
  obtain ⟨fs, hrc⟩ := bM_rc w.b
  have hn1 : 2 ≤ wN ω := k.1.1
  have hn : wN ω ≤ 7 := k.1.2.1
  have hP : pok (wN ω) (wP ω) := k.1.2.2.2.2
  have hc8 := hP.1
  obtain ⟨q1, -, -, q4, q5, q6, -⟩ := pg0.mp w.2.2.1.1
  have q4 : F 50 = nI (pc (wP ω)) := q4
  obtain ⟨g0, g01, g02⟩ := hc
  obtain ⟨l0, m0, s0, o0⟩ := w.1
  obtain ⟨pr0, pr01⟩ := w.2.2.2.2 9 (by omega) (by omega)
  obtain ⟨le0, le01⟩ := w.2.2.2.2 10 (by omega) (by omega)
  have hPK := PK_p hn hP hf
  obtain ⟨cb1, cb2⟩ := cst_le hn hP hf
  refine SpecR.of (by decide +kernel) (Nat.le_of_ble_eq_true rfl) (fun c hc => by cases hc; exact ⟨_, _, _, rfl, hrc⟩) (fun v h' z => ⟨⟨_, z.1⟩, z.2.2.2.1, z.2.2.2.2.1⟩) (fun Q hQ => ?_)
  have hL : ∀ u, u < 2 ^ wN ω - 1 → Lof (wN ω) (pc (wP ω)) (mM (wN ω) (KPp (wN ω) f (wP ω)) (ALp (wN ω) f (wP ω))) u = lw (prP (wN ω) f (wP ω)) (Lof (wN ω) (pc (wP ω)) (mM (wN ω) (KPp (wN ω) f (wP ω)) (ALp (wN ω) f (wP ω)))) (pop u) u (wN ω) := fun u hu => Lof_eq hn hPK hu
  have htop : Lof (wN ω) (pc (wP ω)) (mM (wN ω) (KPp (wN ω) f (wP ω)) (ALp (wN ω) f (wP ω))) (2 ^ wN ω - 1) = 0 := Lof_top hn
  have hLb : ∀ u, Lof (wN ω) (pc (wP ω)) (mM (wN ω) (KPp (wN ω) f (wP ω)) (ALp (wN ω) f (wP ω))) u ≤ 1000 := fun u => Lof_b hn hc8
  have hL0 : cstI (wN ω) f (wP ω) = if 1000 ≤ Lof (wN ω) (pc (wP ω)) (mM (wN ω) (KPp (wN ω) f (wP ω)) (ALp (wN ω) f (wP ω))) 0 then -9 else nI (Lof (wN ω) (pc (wP ω)) (mM (wN ω) (KPp (wN ω) f (wP ω)) (ALp (wN ω) f (wP ω))) 0) := by
    have eL : Lof (wN ω) (pc (wP ω)) (mM (wN ω) (KPp (wN ω) f (wP ω)) (ALp (wN ω) f (wP ω))) 0 = if cst (wN ω) f (wP ω) = 0 then 1000 else wN ω * pc (wP ω) + 1 - cst (wN ω) f (wP ω) := by
      unfold Lof
      rw [show pop 0 = 0 by decide, Nat.sub_zero]
      rfl
    rw [eL]
    unfold cstI
    by_cases c0 : cst (wN ω) f (wP ω) = 0
    · simp only [if_pos c0, if_pos (Nat.le_refl 1000)]
    · simp only [if_neg c0]
      rw [if_neg (by omega)]
  unfold isPl at hQ
  generalize hLe : Lof (wN ω) (pc (wP ω)) (mM (wN ω) (KPp (wN ω) f (wP ω)) (ALp (wN ω) f (wP ω))) = L at hL htop hLb hL0 hQ
  have hPb : ∀ l w, prP (wN ω) f (wP ω) l w ≤ 8000 := fun l w => by
    have : prP (wN ω) f (wP ω) l w ≤ pc (wP ω) * 1000 := sumN_bd (fun t _ => by split; omega; split <;> omega)
    omega
  -- the least costs, from the fullest set down
  have hT1 : 0 < 2 ^ wN ω := Nat.two_pow_pos _
  have hT2 := p2_7 hn
  have at168 : ∀ x, x ≤ 2 ^ wN ω → ∀ (v : Int32) (k1 : xHp) (pr le : Nat → Int32), v = nI x + -1 → frm h k1 (B + 9) (B + 11) → xat k1 (B + 9) (xia 49 pr) → (∀ l, l < wN ω → ∀ w, w < wN ω → pr (7 * l + w) = nI (prP (wN ω) f (wP ω) l w)) → xat k1 (B + 10) (xia 128 le) → (∀ y, x ≤ y → y < 2 ^ wN ω → le y = nI (L y)) → xAt (h.1, h.2.1) g_Mo_costOf Q 168 [(0, .ref B), (2, .int (nI (wN ω))), (3, .int v)] [] k1 := by
    intro x
    induction x with
    | zero =>
      intro _ v k1 pr le ev fr1 p1 p2 e1 e2
      subst ev
      have w1 := w.pl fr1 ⟨_, p1⟩ ⟨_, e1⟩
      obtain ⟨l1, m1, s1, o1⟩ := w1.1
      have hl0 := hLb 0
      have e0 := e2 0 (Nat.le_refl _) hT1
      refine xgoal [(168, [0, 2, 3])] 100 ok_Mo_costOf ?_
      refine And.intro (fun _ => ?_) (fun z => absurd (by decide : nI 0 + -1 < nI 0) z)
      refine xgf o1 rfl ?_
      refine xal e1 rfl (show 0 < 128 by omega) (by decide) ?_
      have q : ∀ v, v = cstI (wN ω) f (wP ω) → Q (some (.int v)) k1 := fun v z => hQ _ _ ⟨by rw [z], w1, ⟨⟨pr, p1, p2⟩, ⟨le, e1, fun u hu => e2 u (Nat.zero_le _) hu⟩⟩, fr1⟩
      refine pk_le 1000 (L 0) (fun z => ?_) (fun z => ?_) rfl e0
      · exact q _ (by rw [hL0, if_pos z])
      · refine xgf o1 rfl ?_
        refine xal e1 rfl (show 0 < 128 by omega) (by decide) ?_
        exact q _ (by rw [hL0, if_neg (by omega), e0])
    | succ x ih =>
      intro hx v k1 pr le ev fr1 p1 p2 e1 e2
      rw [nI_dec (Nat.succ_pos x)] at ev
      have ev : v = nI x := ev
      subst ev
      have ih := ih (by omega)
      have ep := pop_ct (wN ω) (by omega) x hx
      obtain ⟨hp1, hp2⟩ := (pop_tab (wN ω) (by omega)).2 x hx
      have htp := (pop_tab (wN ω) (by omega)).1
      have x128 : x < 128 := by omega
      -- the words that are tried
      have at223 : ∀ (k2 : xHp) (le2 : Nat → Int32), frm h k2 (B + 9) (B + 11) → xat k2 (B + 9) (xia 49 pr) → xat k2 (B + 10) (xia 128 le2) → le2 x = nI (if x = 2 ^ wN ω - 1 then 0 else 1000) → (∀ y, x + 1 ≤ y → y < 2 ^ wN ω → le2 y = nI (L y)) → xAt (h.1, h.2.1) g_Mo_costOf Q 223 [(0, .ref B), (2, .int (nI (wN ω))), (3, .int (nI x)), (4, .int (nI (pop x))), (5, .int (nI 0))] [] k2 := by
        intro k2 le2 fr2 p21 e21 e22 e23
        refine up_loop (P := fun j => ∀ (k3 : xHp) (le3 : Nat → Int32), frm h k3 (B + 9) (B + 11) → xat k3 (B + 9) (xia 49 pr) → xat k3 (B + 10) (xia 128 le3) → le3 x = nI (if x = 2 ^ wN ω - 1 then 0 else lw (prP (wN ω) f (wP ω)) L (pop x) x j) → (∀ y, x + 1 ≤ y → y < 2 ^ wN ω → le3 y = nI (L y)) → xAt (h.1, h.2.1) g_Mo_costOf Q 223 [(0, .ref B), (2, .int (nI (wN ω))), (3, .int (nI x)), (4, .int (nI (pop x))), (5, .int (nI j))] [] k3) (wN ω) ?_ (fun j hj ih2 => ?_) 0 (Nat.zero_le _) k2 le2 fr2 p21 e21 e22 e23
        · intro k3 le3 fr3 p31 e31 e32 e33
          refine xgoal [(168, [0, 2, 3]), (223, [0, 2, 3, 4, 5])] 100 ok_Mo_costOf ?_
          refine pk_le (wN ω) (wN ω) (fun _ => ?_) (fun z => absurd z (by omega))
          refine ih _ k3 pr le3 rfl fr3 p31 p2 e31 (fun y h1 h2 => ?_)
          by_cases e : y = x
          · rw [e, e32]
            by_cases ct : x = 2 ^ wN ω - 1
            · rw [if_pos ct, ct, htop]
            · rw [if_neg ct, ← hL x (by omega)]
          · exact e33 y (by omega) h2
        · intro k3 le3 fr3 p31 e31 e32 e33
          have w3 := w.pl fr3 ⟨_, p31⟩ ⟨_, e31⟩
          obtain ⟨l3, m3, s3, o3⟩ := w3.1
          have go : ∀ (v : Int32), v = nI (if x = 2 ^ wN ω - 1 then 0 else lw (prP (wN ω) f (wP ω)) L (pop x) x (j + 1)) → xAt (h.1, h.2.1) g_Mo_costOf Q 223 [(0, .ref B), (2, .int (nI (wN ω))), (3, .int (nI x)), (4, .int (nI (pop x))), (5, .int (nI j + 1))] [] (xset k3 (B + 10) (xia 128 (upd le3 x v))) := by
            intro v hv
            have ih2 := ih2 (xset k3 (B + 10) (xia 128 (upd le3 x v))) _ (frm_set fr3 (by omega) (by omega)) (xat_set p31 (by omega)) (xat_sf e31.1) (by unfold upd; rw [if_pos rfl]; exact hv) (fun y h1 h2 => by unfold upd; rw [if_neg (by omega)]; exact e33 y h1 h2)
            rw [← nI_1 j] at ih2
            exact ih2
          have hlw : lw (prP (wN ω) f (wP ω)) L (pop x) x j ≤ 1000 := by
            cases j with
            | zero => exact Nat.le_refl _
            | succ j =>
              have : ∀ j, lw (prP (wN ω) f (wP ω)) L (pop x) x j ≤ 1000 := fun j => by
                induction j with
                | zero => exact Nat.le_refl _
                | succ j ihj => exact Nat.le_trans (Nat.min_le_left _ _) ihj
              exact this _
          have es : lw (prP (wN ω) f (wP ω)) L (pop x) x (j + 1) = min (lw (prP (wN ω) f (wP ω)) L (pop x) x j) (if x / 2 ^ j % 2 = 1 then 1000 else prP (wN ω) f (wP ω) (pop x) j + L (x ||| 2 ^ j)) := rfl
          have eb : nI x >>> (nI j &&& 31) &&& nI 1 = nI (x / 2 ^ j % 2) := by rw [n_shr (by omega) (by omega), n_and, show (1 : Nat) = 2 ^ 1 - 1 from rfl, Nat.and_two_pow_sub_one_eq_mod]
          generalize hlj : lw (prP (wN ω) f (wP ω)) L (pop x) x j = A at hlw es e32
          refine xgoal [(168, [0, 2, 3]), (223, [0, 2, 3, 4, 5])] 100 ok_Mo_costOf ?_
          refine pk_le (wN ω) j (fun z => absurd z (by omega)) (fun _ => ?_)
          refine pk_eq (x / 2 ^ j % 2) 1 (fun cb => ?_) (fun cb => ?_) eb rfl
          · rw [if_pos cb, Nat.min_eq_left hlw] at es
            refine xgf o3 rfl ?_
            refine xgf o3 rfl ?_
            refine xal e31 rfl x128 (by decide) ?_
            refine pk_le (if x = 2 ^ wN ω - 1 then 0 else A) 1000 (fun _ => ?_) (fun z => absurd z (by split <;> omega)) e32 rfl (by split <;> omega)
            refine xgf o3 rfl ?_
            refine xal e31 rfl x128 (by decide) ?_
            refine xal e31 rfl x128 (by decide) ?_
            exact go _ (by rw [es]; exact e32)
          · have hne : x ≠ 2 ^ wN ω - 1 := fun z => cb (by rw [z]; exact top_bit (wN ω) (by omega) j hj)
            have hpx := hp2 hne
            obtain ⟨u1, u2, -⟩ := or_up hn hx hj cb
            rw [if_neg hne] at e32
            rw [if_neg cb] at es
            have eo : nI x ||| nI 1 <<< (nI j &&& 31) = nI (x ||| 2 ^ j) := by rw [n_shl _ _ (by omega), Nat.one_mul, n_or]
            have ei : nI 7 * nI (pop x) + nI j = nI (7 * pop x + j) := by rw [n_mul, nI_add]
            have ev1 := p2 (pop x) hpx j hj
            have ev2 := e33 (x ||| 2 ^ j) (by omega) u2
            have hb1 := hPb (pop x) j
            have hb2 := hLb (x ||| 2 ^ j)
            refine xgf o3 rfl ?_
            refine xal p31 ei (show 7 * pop x + j < 49 by omega) (by decide) ?_
            refine xgf o3 rfl ?_
            refine xal e31 eo (show x ||| 2 ^ j < 128 by omega) (by decide) ?_
            refine xgf o3 rfl ?_
            refine xgf o3 rfl ?_
            refine xal e31 rfl x128 (by decide) ?_
            have ev3 : pr (7 * pop x + j) + le3 (x ||| 2 ^ j) = nI (prP (wN ω) f (wP ω) (pop x) j + L (x ||| 2 ^ j)) := by rw [ev1, ev2, nI_add]
            refine pk_le A (prP (wN ω) f (wP ω) (pop x) j + L (x ||| 2 ^ j)) (fun cl => ?_) (fun cl => ?_) e32 ev3
            · refine xgf o3 rfl ?_
              refine xal e31 rfl x128 (by decide) ?_
              refine xal e31 rfl x128 (by decide) ?_
              exact go _ (by rw [if_neg hne, es, Nat.min_eq_left cl]; exact e32)
            · refine xal e31 rfl x128 (by decide) ?_
              exact go _ (by rw [if_neg hne, es, Nat.min_eq_right (by omega)]; exact ev3)
      have at178 : xAt (h.1, h.2.1) g_Mo_costOf Q 178 [(0, .ref B), (2, .int (nI (wN ω))), (3, .int (nI x)), (4, .int (nI 0)), (5, .int (nI 0))] [] k1 := by
        refine up_loop (P := fun j => xAt (h.1, h.2.1) g_Mo_costOf Q 178 [(0, .ref B), (2, .int (nI (wN ω))), (3, .int (nI x)), (4, .int (nI (ct (fun b => x.testBit b) j))), (5, .int (nI j))] [] k1) (wN ω) ?_ (fun j hj ih2 => ?_) 0 (Nat.zero_le _)
        · have w1 := w.pl fr1 ⟨_, p1⟩ ⟨_, e1⟩
          obtain ⟨l1, m1, s1, o1⟩ := w1.1
          rw [ep]
          refine xgoal [(178, [0, 2, 3, 4, 5]), (223, [0, 2, 3, 4, 5])] 100 ok_Mo_costOf ?_
          refine pk_le (wN ω) (wN ω) (fun _ => ?_) (fun z => absurd z (by omega))
          refine xgf o1 rfl ?_
          refine pk_eq (pop x) (wN ω) (fun cp => ?_) (fun cp => ?_)
          · have ex : x = 2 ^ wN ω - 1 := Classical.byContradiction fun z => by have := hp2 z; omega
            refine xal e1 rfl x128 (by decide) ?_
            exact at223 _ _ (frm_set fr1 (by omega) (by omega)) (xat_set p1 (by omega)) (xat_sf e1.1) (by unfold upd; rw [if_pos rfl, if_pos ex]) (fun y h1 h2 => by unfold upd; rw [if_neg (by omega)]; exact e2 y h1 h2)
          · have ex : ¬ x = 2 ^ wN ω - 1 := fun z => cp (by rw [z]; exact htp)
            refine xal e1 rfl x128 (by decide) ?_
            exact at223 _ _ (frm_set fr1 (by omega) (by omega)) (xat_set p1 (by omega)) (xat_sf e1.1) (by unfold upd; rw [if_pos rfl, if_neg ex]) (fun y h1 h2 => by unfold upd; rw [if_neg (by omega)]; exact e2 y h1 h2)
        · have eb : nI x >>> (nI j &&& 31) &&& nI 1 = nI (x / 2 ^ j % 2) := by rw [n_shr (by omega) (by omega), n_and, show (1 : Nat) = 2 ^ 1 - 1 from rfl, Nat.and_two_pow_sub_one_eq_mod]
          refine xgoal [(178, [0, 2, 3, 4, 5])] 100 ok_Mo_costOf ?_
          refine pk_le (wN ω) j (fun z => absurd z (by omega)) (fun _ => ?_)
          rw [ct_bit, ← nI_add, ← eb, ← nI_1 j] at ih2
          exact ih2
      refine xgoal [(178, [0, 2, 3, 4, 5])] 100 ok_Mo_costOf ?_
      exact pk_lt x 0 (fun z => absurd z (Nat.not_lt_zero x)) (fun _ => at178)
  -- the prices
  have at28 : ∀ (k1 : xHp) (pr : Nat → Int32), frm h k1 (B + 9) (B + 11) → xat k1 (B + 9) (xia 49 pr) → xat k1 (B + 10) (xia 128 le0) → (∀ x, x < 49 → pr x = nI 0) → xAt (h.1, h.2.1) g_Mo_costOf Q 28 [(0, .ref B), (1, .ref c), (2, .int (nI (wN ω))), (3, .int (nI 0))] [] k1 := by
    intro k1 pr fr1 p1 e1 z0
    refine up_loop (P := fun i => ∀ (k2 : xHp) (pr : Nat → Int32), frm h k2 (B + 9) (B + 11) → xat k2 (B + 9) (xia 49 pr) → xat k2 (B + 10) (xia 128 le0) → (∀ l, l < wN ω → ∀ w, w < wN ω → pr (7 * l + w) = nI (pA f (wP ω) l w i)) → xAt (h.1, h.2.1) g_Mo_costOf Q 28 [(0, .ref B), (1, .ref c), (2, .int (nI (wN ω))), (3, .int (nI i))] [] k2) (wN ω) ?_ (fun i hi ih => ?_) 0 (Nat.zero_le _) k1 pr fr1 p1 e1 (fun l hl w hw => z0 _ (by omega))
    · intro k2 pr fr2 p2 e2 hA
      have e3 : nI 1 <<< (nI (wN ω) &&& 31) - nI 1 = nI (2 ^ wN ω) + -1 := by rw [n_shl _ _ (by omega), Nat.one_mul, n_dm hT1]
      refine xgoal [(28, [0, 1, 2, 3]), (168, [0, 2, 3])] 100 ok_Mo_costOf ?_
      refine pk_le (wN ω) (wN ω) (fun _ => ?_) (fun z => absurd z (by omega))
      exact at168 (2 ^ wN ω) (Nat.le_refl _) _ k2 pr le0 e3 fr2 p2 (fun l hl w hw => by rw [hA l hl w hw, pA_n hf hl]) e2 (fun y h1 h2 => absurd h2 (by omega))
    · intro k2 pr fr2 p2 e2 hA
      refine xgoal [(28, [0, 1, 2, 3]), (39, [0, 1, 2, 3, 4, 5])] 100 ok_Mo_costOf ?_
      refine pk_le (wN ω) i (fun z => absurd z (by omega)) (fun _ => ?_)
      refine up_loop (P := fun s => ∀ (k3 : xHp) (pr : Nat → Int32), frm h k3 (B + 9) (B + 11) → xat k3 (B + 9) (xia 49 pr) → xat k3 (B + 10) (xia 128 le0) → (∀ l, l < wN ω → ∀ w, w < wN ω → pr (7 * l + w) = nI (pB f (wP ω) i s l w)) → xAt (h.1, h.2.1) g_Mo_costOf Q 39 [(0, .ref B), (1, .ref c), (2, .int (nI (wN ω))), (3, .int (nI i)), (4, .int (nI (itr f s i))), (5, .int (nI s))] [] k3) (pc (wP ω)) ?_ (fun s hs ih2 => ?_) 0 (Nat.zero_le _) k2 pr fr2 p2 e2 hA
      · intro k3 pr fr3 p3 e3 hB
        have w3 := w.pl fr3 ⟨_, p3⟩ ⟨_, e3⟩
        obtain ⟨l3, m3, s3, o3⟩ := w3.1
        have ih := ih k3 pr fr3 p3 e3 hB
        rw [← nI_1 i] at ih
        refine xgoal [(28, [0, 1, 2, 3]), (39, [0, 1, 2, 3, 4, 5])] 100 ok_Mo_costOf ?_
        refine xgf o3 rfl ?_
        refine xal w3.2.1 rfl (show 50 < 1620 by omega) (by decide) ?_
        exact pk_le (pc (wP ω)) (pc (wP ω)) (fun _ => ih) (fun z => absurd z (by omega)) q4 rfl
      · intro k3 pr fr3 p3 e3 hB
        have w3 := w.pl fr3 ⟨_, p3⟩ ⟨_, e3⟩
        obtain ⟨l3, m3, s3, o3⟩ := w3.1
        have hj := itr_lt hf.1 s i hi
        have ej : itr f (s + 1) i = f (itr f s i) := rfl
        have v5 := q5 s hs i hi
        have v6 := q6 s hs i hi
        refine xgoal [(28, [0, 1, 2, 3]), (39, [0, 1, 2, 3, 4, 5]), (54, [0, 1, 2, 3, 4, 5, 6])] 100 ok_Mo_costOf ?_
        refine xgf o3 rfl ?_
        refine xal w3.2.1 rfl (show 50 < 1620 by omega) (by decide) ?_
        refine pk_le (pc (wP ω)) s (fun z => absurd z (by omega)) (fun _ => ?_) q4 rfl
        refine up_loop (P := fun x => ∀ (k4 : xHp) (pr : Nat → Int32), frm h k4 (B + 9) (B + 11) → xat k4 (B + 9) (xia 49 pr) → xat k4 (B + 10) (xia 128 le0) → (∀ l, l < wN ω → ∀ w, w < wN ω → pr (7 * l + w) = nI (if l = itr f s i ∧ w < x then pB f (wP ω) i (s + 1) l w else pB f (wP ω) i s l w)) → xAt (h.1, h.2.1) g_Mo_costOf Q 54 [(0, .ref B), (1, .ref c), (2, .int (nI (wN ω))), (3, .int (nI i)), (4, .int (nI (itr f s i))), (5, .int (nI s)), (6, .int (nI x))] [] k4) (wN ω) ?_ (fun x hx ih3 => ?_) 0 (Nat.zero_le _) k3 pr fr3 p3 e3 (fun l hl w hw => by rw [hB l hl w hw, if_neg (fun z => absurd z.2 (Nat.not_lt_zero w))])
        · intro k4 pr fr4 p4 e4 hC
          have ih2 := ih2 k4 pr fr4 p4 e4 (fun l hl w hw => by
            rw [hC l hl w hw]
            by_cases e : l = itr f s i
            · rw [if_pos ⟨e, hw⟩]
            · rw [if_neg (fun z => e z.1), pB_ne (fun z => e z.symm)])
          rw [ej, ← nI_1 s, ← g02 _ hj] at ih2
          refine xgoal [(39, [0, 1, 2, 3, 4, 5]), (54, [0, 1, 2, 3, 4, 5, 6])] 100 ok_Mo_costOf ?_
          refine pk_le (wN ω) (wN ω) (fun _ => ?_) (fun z => absurd z (by omega))
          refine xal (xat_fr g01 fr4 (by omega)) rfl (show itr f s i < 7 by omega) (by decide) ?_
          exact ih2
        · intro k4 pr fr4 p4 e4 hC
          have w4 := w.pl fr4 ⟨_, p4⟩ ⟨_, e4⟩
          obtain ⟨l4, m4, s4, o4⟩ := w4.1
          have ei : nI 7 * nI (itr f s i) + nI x = nI (7 * itr f s i + x) := by rw [n_mul, nI_add]
          have i49 : 7 * itr f s i + x < 49 := by omega
          have hold : pr (7 * itr f s i + x) = nI (pB f (wP ω) i s (itr f s i) x) := by rw [hC _ hj x hx, if_neg (fun z => Nat.lt_irrefl x z.2)]
          have go : ∀ d, d = cq (wP ω) s i x → xAt (h.1, h.2.1) g_Mo_costOf Q 54 [(0, .ref B), (1, .ref c), (2, .int (nI (wN ω))), (3, .int (nI i)), (4, .int (nI (itr f s i))), (5, .int (nI s)), (6, .int (nI x + 1))] [] (xset k4 (B + 9) (xia 49 (upd pr (7 * itr f s i + x) (pr (7 * itr f s i + x) + nI d)))) := by
            intro d ed
            have ih3 := ih3 (xset k4 (B + 9) (xia 49 (upd pr (7 * itr f s i + x) (pr (7 * itr f s i + x) + nI d)))) _ (frm_set fr4 (by omega) (by omega)) (xat_sf p4.1) (xat_set e4 (by omega)) (fun l hl w hw => by
              unfold upd
              by_cases e : l = itr f s i
              · subst e
                by_cases e2 : w = x
                · rw [if_pos (by omega), if_pos ⟨rfl, by omega⟩, e2, pB_eq, hold, nI_add, ed]
                · rw [if_neg (by omega), hC _ hl w hw]
                  by_cases e3 : w < x
                  · rw [if_pos ⟨rfl, e3⟩, if_pos ⟨rfl, by omega⟩]
                  · rw [if_neg (fun z => e3 z.2), if_neg (fun z => by omega)]
              · rw [if_neg (by omega), hC l hl w hw, if_neg (fun z => e z.1), if_neg (fun z => e z.1)])
            rw [← nI_1 x] at ih3
            exact ih3
          have v5' : F (51 + (7 * s + i)) = nI (pst (wP ω) s i) := by rw [← Nat.add_assoc]; exact v5
          have v6' : F (107 + (7 * s + i)) = nI (plk (wP ω) s / 2 ^ i % 2) := by rw [← Nat.add_assoc]; exact v6
          have hps := hP.2.1 s hs i hi
          unfold cq at go
          refine xgoal [(54, [0, 1, 2, 3, 4, 5, 6])] 100 ok_Mo_costOf ?_
          refine pk_le (wN ω) x (fun z => absurd z (by omega)) (fun _ => ?_)
          refine xgf o4 rfl ?_
          refine xci (sp_Mo_placeOf (s := s) (i := i) w4.b) ?_
          refine xal w4.2.1 (nI_add 51 (7 * s + i)) (show 51 + (7 * s + i) < 1620 by omega) (by decide) ?_
          refine pk_eq (pst (wP ω) s i) x (fun c1 => ?_) (fun c1 => ?_) v5' rfl
          · simp only [if_pos c1] at go
            refine xgf o4 rfl ?_
            refine xal p4 ei i49 (by decide) ?_
            refine pk_eq 1 0 (fun z => absurd z (by omega)) (fun _ => ?_)
            refine xal p4 ei i49 (by decide) ?_
            exact go 0 rfl
          · simp only [if_neg c1] at go
            refine xgf o4 rfl ?_
            refine xal p4 ei i49 (by decide) ?_
            refine pk_eq 0 0 (fun _ => ?_) (fun z => absurd rfl z)
            refine xgf o4 rfl ?_
            refine xci (sp_Mo_placeOf (s := s) (i := i) w4.b) ?_
            refine xal w4.2.1 (nI_add 107 (7 * s + i)) (show 107 + (7 * s + i) < 1620 by omega) (by decide) ?_
            refine pk_eq (plk (wP ω) s / 2 ^ i % 2) 1 (fun c2 => ?_) (fun c2 => ?_) v6' rfl
            · simp only [if_pos c2] at go
              refine xal p4 ei i49 (by decide) ?_
              exact go 1000 rfl
            · simp only [if_neg c2] at go
              refine xal p4 ei i49 (by decide) ?_
              exact go 1 rfl
  refine xgoal [(7, [0, 1, 2, 3])] 100 ok_Mo_costOf ?_
  refine xci (sp_Mo_size w.b) ?_
  refine up_loop (P := fun x => ∀ (k1 : xHp) (pr : Nat → Int32), frm h k1 (B + 9) (B + 11) → xat k1 (B + 9) (xia 49 pr) → xat k1 (B + 10) (xia 128 le0) → (∀ y, y < x → pr y = nI 0) → xAt (h.1, h.2.1) g_Mo_costOf Q 7 [(0, .ref B), (1, .ref c), (2, .int (nI (wN ω))), (3, .int (nI x))] [] k1) 49 ?_ (fun x hx ih => ?_) 0 (Nat.zero_le _) h pr0 frm_rf pr01 le01 (fun y hy => absurd hy (Nat.not_lt_zero y))
  · intro k1 pr fr1 p1 e1 z0
    refine xgoal [(28, [0, 1, 2, 3])] 100 ok_Mo_costOf ?_
    exact pk_le 49 49 (fun _ => at28 k1 pr fr1 p1 e1 z0) (fun z => absurd z (by omega))
  · intro k1 pr fr1 p1 e1 z0
    have w1 := w.pl fr1 ⟨_, p1⟩ ⟨_, e1⟩
    obtain ⟨l1, m1, s1, o1⟩ := w1.1
    refine xgoal [(7, [0, 1, 2, 3]), (28, [0, 1, 2, 3])] 100 ok_Mo_costOf ?_
    refine pk_le 49 x (fun z => absurd z (by omega)) (fun _ => ?_)
    refine xgf o1 rfl ?_
    refine xal p1 rfl (show x < 49 by omega) (by decide) ?_
    have ih := ih (xset k1 (B + 9) (xia 49 (upd pr x (nI 0)))) _ (frm_set fr1 (by omega) (by omega)) (xat_sf p1.1) (xat_set e1 (by omega)) (fun y hy => by
      unfold upd
      by_cases e : y = x
      · rw [if_pos e]
      · rw [if_neg e]; exact z0 y (by omega))
    rw [← nI_1 x] at ih
    exact ih
