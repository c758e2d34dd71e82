/-! THE REFERENCE'S CALLS: costs, mended poems, the best permutation -/
theorem sp_Mo_wrong {h : xHp} {B : Nat} {ω : Wv} {F tx : Nat → Int32} {r v : Int32} (w : isMF h B ω F tx) (k : wok ω) (hv : (ix 6 r = none → v = -1) ∧ ∀ q, ix 6 r = some q → v = if pc (wP ω) = 0 then -2 else nI 0) : Spec g_Mo_wrong [.ref B, .int r] h (some (.int v)) h := by
  obtain ⟨fs, hrc⟩ := bM_rc w.b
  have hc8 : pc (wP ω) ≤ 8 := k.1.2.2.2.2.1
  obtain ⟨l1, m1, s1, o1⟩ := w.1
  have q4 := (pg0.mp w.2.2.1.1).2.2.2.1
  refine Spec.of (by decide +kernel) (Nat.le_of_ble_eq_true rfl) ⟨_, rfl⟩ rfl rfl (fun c hc => by cases hc; exact ⟨_, _, _, rfl, hrc⟩) (fun Q hQ => ?_)
  refine xgoal [] 100 ok_Mo_wrong ?_
  refine xci (sp_Mo_isRegister r h) ?_
  refine gdX (fun z => ?_) (fun q hq e hlt => ?_)
  · rw [hv.1 z] at hQ; exact hQ
  have hv := hv.2 q hq
  refine xgf o1 rfl ?_
  refine xal w.2.1 rfl (show 50 < 1620 by omega) (by decide) ?_
  refine pk_eq (pc (wP ω)) 0 (fun c => ?_) (fun c => ?_) q4 rfl
  · rw [hv, if_pos c] at hQ; exact hQ
  · rw [hv, if_neg c] at hQ; exact hQ
theorem sp_Mo_cost {h : xHp} {B : Nat} {ω : Wv} {r : Int32} (w : isM h B ω) (k : wok ω) : SpecR g_Mo_cost [.ref B, .int r] h (pM h B (stCost ω r)) := by
  obtain ⟨F, tx, w⟩ := w
  obtain ⟨fs, hrc⟩ := bM_rc w.b
  refine SpecR.of (by decide +kernel) (Nat.le_of_ble_eq_true rfl) (fun c hc => by cases hc; exact ⟨_, _, _, rfl, hrc⟩) (fun v h' z => ⟨⟨_, z.1⟩, z.2.2.1, z.2.2.2.1⟩) (fun Q hQ => ?_)
  generalize hO : stCost ω r = o at hQ
  unfold stCost at hO
  have bad : ∀ c, (c, ω) = o → Q (some (.int c)) h := fun c e => by subst e; exact hQ _ _ ⟨rfl, ⟨F, tx, w⟩, frm_rf⟩
  have fin : ∀ (v : Int32) (ω' : Wv) (h' : xHp) (F' tx' : Nat → Int32), (v, ω') = o → isMF h' B ω' F' tx' → frm h h' B (B + 14) → Q (some (.int v)) h' := fun v ω' h' F' tx' e w' f => by subst e; exact hQ _ _ ⟨rfl, ⟨F', tx', w'⟩, f⟩
  have hn1 : 2 ≤ wN ω := k.1.1
  have hn : wN ω ≤ 7 := k.1.2.1
  have hS : ∀ i, i < wN ω → sS ω.1 i < 4 := k.1.2.2.1
  have hG : ∀ r, r < 6 → PM (wN ω) (wG ω r) := k.1.2.2.2.1
  have hP : pok (wN ω) (wP ω) := k.1.2.2.2.2
  refine xgoal [] 100 ok_Mo_cost ?_
  cases hr : ix 6 r with
  | none =>
    rw [gdN hr] at hO
    refine xci (sp_Mo_wrong (v := -1) w k ⟨fun _ => rfl, fun q z => by rw [hr] at z; cases z⟩) ?_
    exact And.intro (fun z => absurd z (by decide)) (fun _ => bad _ hO)
  | some q =>
    obtain ⟨e, hlt⟩ := ix_some hr
    subst e
    rw [gdS hr] at hO
    by_cases c0 : pc (wP ω) = 0
    · rw [if_pos c0] at hO
      refine xci (sp_Mo_wrong (v := -2) w k ⟨fun z => (by rw [hr] at z; cases z), fun _ _ => (if_pos c0).symm⟩) ?_
      exact And.intro (fun z => absurd z (by decide)) (fun _ => bad _ hO)
    rw [if_neg c0] at hO
    refine xci (sp_Mo_wrong (v := nI 0) w k ⟨fun z => (by rw [hr] at z; cases z), fun _ _ => (if_neg c0).symm⟩) ?_
    refine pk_eq 0 0 (fun _ => ?_) (fun z => absurd rfl z)
    obtain ⟨l1, m1, s1, o1⟩ := w.1
    refine xgf o1 rfl ?_
    refine xtakes w hn hlt (c := 3) (by omega) (by omega) (fun h2 w2 r2 fr2 => ?_)
    obtain ⟨l2, m2, s2, o2⟩ := w2.1
    refine xgf o2 rfl ?_
    refine xri (sp_Mo_costOf w2 k (hG q hlt) r2 (Or.inl rfl)) ?_
    rintro v h3 ⟨e, w3, -, fr3⟩
    cases e
    exact fin _ _ _ _ tx hO w3 (frm_tr (frm_wd fr2 (show B ≤ B + 3 by omega) (show B + 3 + 1 ≤ B + 14 by omega)) fr3 (by omega) (by omega))
theorem sp_Mo_mend {h : xHp} {B : Nat} {ω : Wv} {r : Int32} (w : isM h B ω) (k : wok ω) : SpecR g_Mo_mend [.ref B, .int r] h (pM h B (stMend ω r)) := by
  obtain ⟨F, tx, w⟩ := w
  obtain ⟨fs, hrc⟩ := bM_rc w.b
  refine SpecR.of (by decide +kernel) (Nat.le_of_ble_eq_true rfl) (fun c hc => by cases hc; exact ⟨_, _, _, rfl, hrc⟩) (fun v h' z => ⟨⟨_, z.1⟩, z.2.2.1, z.2.2.2.1⟩) (fun Q hQ => ?_)
  generalize hO : stMend ω r = o at hQ
  unfold stMend at hO
  have bad : ∀ c, (c, ω) = o → Q (some (.int c)) h := fun c e => by subst e; exact hQ _ _ ⟨rfl, ⟨F, tx, w⟩, frm_rf⟩
  have fin : ∀ (v : Int32) (ω' : Wv) (h' : xHp) (F' tx' : Nat → Int32), (v, ω') = o → isMF h' B ω' F' tx' → frm h h' B (B + 14) → Q (some (.int v)) h' := fun v ω' h' F' tx' e w' f => by subst e; exact hQ _ _ ⟨rfl, ⟨F', tx', w'⟩, f⟩
  have hn1 : 2 ≤ wN ω := k.1.1
  have hn : wN ω ≤ 7 := k.1.2.1
  have hS : ∀ i, i < wN ω → sS ω.1 i < 4 := k.1.2.2.1
  have hG : ∀ r, r < 6 → PM (wN ω) (wG ω r) := k.1.2.2.2.1
  have hP : pok (wN ω) (wP ω) := k.1.2.2.2.2
  refine xgoal [(49, [0, 3, 4, 5])] 100 ok_Mo_mend ?_
  cases hr : ix 6 r with
  | none =>
    rw [gdN hr] at hO
    refine xci (sp_Mo_wrong (v := -1) w k ⟨fun _ => rfl, fun q z => by rw [hr] at z; cases z⟩) ?_
    exact And.intro (fun z => absurd z (by decide)) (fun _ => bad _ hO)
  | some q =>
    obtain ⟨e, hlt⟩ := ix_some hr
    subst e
    rw [gdS hr] at hO
    by_cases c0 : pc (wP ω) = 0
    · rw [if_pos c0] at hO
      refine xci (sp_Mo_wrong (v := -2) w k ⟨fun z => (by rw [hr] at z; cases z), fun _ _ => (if_pos c0).symm⟩) ?_
      exact And.intro (fun z => absurd z (by decide)) (fun _ => bad _ hO)
    rw [if_neg c0] at hO
    refine xci (sp_Mo_wrong (v := nI 0) w k ⟨fun z => (by rw [hr] at z; cases z), fun _ _ => (if_neg c0).symm⟩) ?_
    refine pk_eq 0 0 (fun _ => ?_) (fun z => absurd rfl z)
    have hc8 := hP.1
    have hf := hG q hlt
    obtain ⟨cb1, cb2⟩ := cst_le hn hP hf
    refine xrec w k (fun h1 F1 w1 hF1 fr1 => ?_)
    obtain ⟨l1, m1, s1, o1⟩ := w1.1
    refine xgf o1 rfl ?_
    refine xtakes w1 hn hlt (c := 3) (by omega) (by omega) (fun h2 w2 r2 fr2 => ?_)
    obtain ⟨l2, m2, s2, o2⟩ := w2.1
    refine xgf o2 rfl ?_
    refine xri (sp_Mo_costOf w2 (rcd_ok k) hf r2 (Or.inl rfl)) ?_
    rintro v h3 ⟨e, w3, hpl, fr3⟩
    have e : some (Value.int v) = some (Value.int (cstI (wN ω) (wG ω q) (wP ω))) := e
    cases e
    have hpl : isPl h3 B (wN ω) (wG ω q) (wP ω) := hpl
    have r3 : isRw h3 (B + 3) (wN ω) (wG ω q) := r2.fr fr3 (by omega)
    have fr123 : frm h h3 B (B + 14) := frm_tr (frm_tr fr1 fr2 (by omega) (by omega)) fr3 (by omega) (by omega)
    obtain ⟨g3, g31, g32⟩ := r3
    obtain ⟨⟨pr, p1, p2⟩, ⟨le, e1, e2⟩⟩ := hpl
    obtain ⟨l3, m3, s3, o3⟩ := w3.1
    obtain ⟨q1, q2, q3, q4, q5, q6, q7, q8, q9⟩ := pg0.mp w3.2.2.1.1
    have q4 : F1 50 = nI (pc (wP ω)) := q4
    have q1 : F1 0 = nI (wN ω) := q1
    by_cases cc : cst (wN ω) (wG ω q) (wP ω) = 0
    · rw [if_pos cc] at hO
      have ei : cstI (wN ω) (wG ω q) (wP ω) = -9 := if_pos cc
      exact And.intro (fun _ => fin _ _ _ _ tx hO w3 fr123) (fun z => absurd ei z)
    · rw [if_neg cc] at hO
      have ei : cstI (wN ω) (wG ω q) (wP ω) = nI (wN ω * pc (wP ω) + 1 - cst (wN ω) (wG ω q) (wP ω)) := if_neg cc
      refine And.intro (fun z => absurd z (by rw [ei]; exact nI_m9 (by omega))) (fun _ => ?_)
      have hPK := PK_p hn hP hf
      have h0 : mM (wN ω) (KPp (wN ω) (wG ω q) (wP ω)) (ALp (wN ω) (wG ω q) (wP ω)) 0 ≠ 0 := cc
      have hT2 := p2_7 hn
      have hPb : ∀ l w, prP (wN ω) (wG ω q) (wP ω) l w ≤ 8000 := fun l w => by
        have : prP (wN ω) (wG ω q) (wP ω) l w ≤ pc (wP ω) * 1000 := sumN_bd (fun t _ => by split; omega; split <;> omega)
        omega
      have hfl : ∀ i, i < wN ω → frow (wN ω) (KPp (wN ω) (wG ω q) (wP ω)) (ALp (wN ω) (wG ω q) (wP ω)) i < wN ω := fun i hi => frow_lt hn h0 hi
      have hLb : ∀ u, Lof (wN ω) (pc (wP ω)) (mM (wN ω) (KPp (wN ω) (wG ω q) (wP ω)) (ALp (wN ω) (wG ω q) (wP ω))) u ≤ 1000 := fun u => Lof_b hn hc8
      generalize hcI : cstI (wN ω) (wG ω q) (wP ω) = cI at hO
      -- the stanzas behind the first one
      have at144 : ∀ (k4 : xHp) (F4 : Nat → Int32), frm h3 k4 (B + 1) (B + 2) → xat k4 (B + 1) (xia 1620 F4) → (∀ x, x < 51 ∨ 107 ≤ x → F4 x = F1 x) → (∀ i, i < wN ω → F4 (51 + 7 * 0 + i) = nI (frow (wN ω) (KPp (wN ω) (wG ω q) (wP ω)) (ALp (wN ω) (wG ω q) (wP ω)) i)) → xAt (h.1, h.2.1) g_Mo_mend Q 144 [(0, .ref B), (3, .int cI), (5, .int (nI 1))] [] k4 := by
        generalize hfr : frow (wN ω) (KPp (wN ω) (wG ω q) (wP ω)) (ALp (wN ω) (wG ω q) (wP ω)) = fr at hO hfl
        intro k4 F4 fr4 g4 a1 a2
        refine up_loop (P := fun s => 1 ≤ s → ∀ (k4 : xHp) (F4 : Nat → Int32), frm h3 k4 (B + 1) (B + 2) → xat k4 (B + 1) (xia 1620 F4) → (∀ x, x < 51 ∨ 107 ≤ x → F4 x = F1 x) → (∀ t, t < s → ∀ i, i < wN ω → F4 (51 + 7 * t + i) = nI (fr (itr (wG ω q) t i))) → xAt (h.1, h.2.1) g_Mo_mend Q 144 [(0, .ref B), (3, .int cI), (5, .int (nI s))] [] k4) (pc (wP ω)) ?_ (fun s hs ih => ?_) 1 (by omega) (Nat.le_refl _) k4 F4 fr4 g4 a1 (fun t ht i hi => by rw [show t = 0 by omega]; exact a2 i hi)
        · intro _ k4 F4 fr4 g4 a1 a2
          have o4 := xat_fr o3 fr4 (by omega)
          have w4 : isMF k4 B (withP ω.1 (prew (wP ω) fr (wG ω q)), (rcd ω).2) F4 tx := w3.pgw fr4 g4 (by
            refine pg0.mpr ⟨(a1 _ (by omega)).trans q1, fun i hi => ?_, fun r hr i hi => ?_, (a1 _ (by omega)).trans q4, fun s hs i hi => ?_, fun s hs i hi => ?_, (a1 _ (by omega)).trans q7, fun l hl => ?_, fun l hl k hk => ?_⟩
            · have hi : i < wN ω := hi
              exact (a1 _ (by omega)).trans (q2 i hi)
            · have hi : i < wN ω := hi
              exact (a1 _ (by omega)).trans (q3 r hr i hi)
            · have hi : i < wN ω := hi
              have hs : s < pc (wP ω) := hs
              exact a2 s hs i hi
            · have hi : i < wN ω := hi
              exact (a1 _ (by omega)).trans (q6 s hs i hi)
            · exact (a1 _ (by omega)).trans (q8 l hl)
            · exact (a1 _ (by omega)).trans (q9 l hl k hk)) (pgs_hi (rcd_ok k).2.1 w3.2.2.1.2 (fun x hx => a1 x (by omega)))
          refine xgoal [(144, [0, 3, 5])] 100 ok_Mo_mend ?_
          refine xgf o4 rfl ?_
          refine xal g4 rfl (show 50 < 1620 by omega) (by decide) ?_
          exact pk_le (pc (wP ω)) (pc (wP ω)) (fun _ => fin _ _ _ _ tx hO w4 (frm_tr fr123 fr4 (by omega) (by omega))) (fun z => absurd z (by omega)) ((a1 50 (by omega)).trans q4) rfl
        · intro hs1 k4 F4 fr4 g4 a1 a2
          have o4 := xat_fr o3 fr4 (by omega)
          refine xgoal [(144, [0, 3, 5]), (159, [0, 3, 5, 6])] 100 ok_Mo_mend ?_
          refine xgf o4 rfl ?_
          refine xal g4 rfl (show 50 < 1620 by omega) (by decide) ?_
          refine pk_le (pc (wP ω)) s (fun z => absurd z (by omega)) (fun _ => ?_) ((a1 50 (by omega)).trans q4) rfl
          refine up_loop (P := fun x => ∀ (k5 : xHp) (F5 : Nat → Int32), frm h3 k5 (B + 1) (B + 2) → xat k5 (B + 1) (xia 1620 F5) → (∀ x, x < 51 ∨ 107 ≤ x → F5 x = F1 x) → (∀ t, t < s → ∀ i, i < wN ω → F5 (51 + 7 * t + i) = nI (fr (itr (wG ω q) t i))) → (∀ i, i < x → F5 (51 + 7 * s + i) = nI (fr (itr (wG ω q) s i))) → xAt (h.1, h.2.1) g_Mo_mend Q 159 [(0, .ref B), (3, .int cI), (5, .int (nI s)), (6, .int (nI x))] [] k5) (wN ω) ?_ (fun x hx ih2 => ?_) 0 (Nat.zero_le _) k4 F4 fr4 g4 a1 a2 (fun i hi => absurd hi (Nat.not_lt_zero i))
          · intro k5 F5 fr5 g5 b1 b2 b3
            have bb : bM k5 B (wN ω) F5 := bMk o3 fr5 g5 ((b1 0 (by omega)).trans q1)
            have ih := ih (by omega) k5 F5 fr5 g5 b1 (fun t ht i hi => by
              by_cases e : t = s
              · rw [e]; exact b3 i hi
              · exact b2 t (by omega) i hi)
            rw [← nI_1 s] at ih
            refine xgoal [(144, [0, 3, 5]), (159, [0, 3, 5, 6])] 100 ok_Mo_mend ?_
            refine xci (sp_Mo_size bb) ?_
            exact pk_le (wN ω) (wN ω) (fun _ => ih) (fun z => absurd z (by omega))
          · intro k5 F5 fr5 g5 b1 b2 b3
            have o5 := xat_fr o3 fr5 (by omega)
            have bb : bM k5 B (wN ω) F5 := bMk o3 fr5 g5 ((b1 0 (by omega)).trans q1)
            have hg := hf.1 x hx
            have hv : F5 (51 + (7 * (s - 1) + wG ω q x)) = nI (fr (itr (wG ω q) s x)) := by
              rw [← Nat.add_assoc, b2 (s - 1) (by omega) _ hg]
              have := itr_add (wG ω q) (s - 1) 1 x
              rw [show s - 1 + 1 = s by omega] at this
              rw [this]; rfl
            refine xgoal [(159, [0, 3, 5, 6])] 100 ok_Mo_mend ?_
            refine xci (sp_Mo_size bb) ?_
            refine pk_le (wN ω) x (fun z => absurd z (by omega)) (fun _ => ?_)
            refine xgf o5 rfl ?_
            refine xci (sp_Mo_placeOf (s := s) (i := x) bb) ?_
            refine xgf o5 rfl ?_
            refine xgf o5 rfl ?_
            refine xal (xat_fr g31 fr5 (by omega)) rfl (show x < 7 by omega) (by decide) ?_
            have sp := sp_Mo_placeOf (s := s - 1) (i := wG ω q x) bb
            rw [← pk_sub hs1, ← g32 x hx] at sp
            refine xci sp ?_
            refine xal g5 (nI_add 51 _) (show 51 + (7 * (s - 1) + wG ω q x) < 1620 by omega) (by decide) ?_
            refine xal g5 (nI_add 51 (7 * s + x)) (show 51 + (7 * s + x) < 1620 by omega) (by decide) ?_
            have ih2 := ih2 (xset k5 (B + 1) (xia 1620 (upd F5 (51 + (7 * s + x)) (F5 (51 + (7 * (s - 1) + wG ω q x)))))) _ (frm_set fr5 (by omega) (by omega)) (xat_sf g5.1) (fun y hy => by unfold upd; rw [if_neg (by omega)]; exact b1 y hy) (fun t ht i hi => by unfold upd; rw [if_neg (by omega)]; exact b2 t ht i hi) (fun i hi => by
              unfold upd
              by_cases e : i = x
              · rw [if_pos (by omega), hv, e]
              · rw [if_neg (by omega)]; exact b3 i (by omega))
            rw [← nI_1 x] at ih2
            exact ih2
      -- the first stanza
      refine up_loop (P := fun i => ∀ (k4 : xHp) (F4 : Nat → Int32), frm h3 k4 (B + 1) (B + 2) → xat k4 (B + 1) (xia 1620 F4) → (∀ x, x < 51 ∨ 107 ≤ x → F4 x = F1 x) → (∀ j, j < i → F4 (51 + j) = nI (frow (wN ω) (KPp (wN ω) (wG ω q) (wP ω)) (ALp (wN ω) (wG ω q) (wP ω)) j)) → xAt (h.1, h.2.1) g_Mo_mend Q 49 [(0, .ref B), (3, .int cI), (4, .int (nI (usd (wN ω) (KPp (wN ω) (wG ω q) (wP ω)) (ALp (wN ω) (wG ω q) (wP ω)) i))), (5, .int (nI i))] [] k4) (wN ω) ?_ (fun i hi ih => ?_) 0 (Nat.zero_le _) h3 F1 frm_rf w3.2.1 (fun _ _ => rfl) (fun j hj => absurd hj (Nat.not_lt_zero j))
      · intro k4 F4 fr4 g4 a1 a2
        have bb : bM k4 B (wN ω) F4 := bMk o3 fr4 g4 ((a1 0 (by omega)).trans q1)
        refine xgoal [(144, [0, 3, 5])] 100 ok_Mo_mend ?_
        refine xci (sp_Mo_size bb) ?_
        exact pk_le (wN ω) (wN ω) (fun _ => at144 k4 F4 fr4 g4 a1 a2) (fun z => absurd z (by omega))
      · intro k4 F4 fr4 g4 a1 a2
        have bb : bM k4 B (wN ω) F4 := bMk o3 fr4 g4 ((a1 0 (by omega)).trans q1)
        have o4 := xat_fr o3 fr4 (by omega)
        obtain ⟨u1, u2, u3⟩ := usd_lt hn h0 hi
        have eus : usd (wN ω) (KPp (wN ω) (wG ω q) (wP ω)) (ALp (wN ω) (wG ω q) (wP ω)) (i + 1) = usd (wN ω) (KPp (wN ω) (wG ω q) (wP ω)) (ALp (wN ω) (wG ω q) (wP ω)) i ||| 2 ^ frow (wN ω) (KPp (wN ω) (wG ω q) (wP ω)) (ALp (wN ω) (wG ω q) (wP ω)) i := rfl
        rw [eus] at ih
        have hfli := hfl i hi
        have hfwE : ∀ w, w < wN ω → fwb (wN ω) (KPp (wN ω) (wG ω q) (wP ω)) (ALp (wN ω) (wG ω q) (wP ω)) (usd (wN ω) (KPp (wN ω) (wG ω q) (wP ω)) (ALp (wN ω) (wG ω q) (wP ω)) i) w = decide _ := fun w hw => fwb_eq hn hPK u1 hw u3
        have hno : ∀ w, w < frow (wN ω) (KPp (wN ω) (wG ω q) (wP ω)) (ALp (wN ω) (wG ω q) (wP ω)) i → fwb (wN ω) (KPp (wN ω) (wG ω q) (wP ω)) (ALp (wN ω) (wG ω q) (wP ω)) (usd (wN ω) (KPp (wN ω) (wG ω q) (wP ω)) (ALp (wN ω) (wG ω q) (wP ω)) i) w = false := fun w hw => sr_no _ _ _ w (Nat.zero_le _) hw
        have hyes : fwb (wN ω) (KPp (wN ω) (wG ω q) (wP ω)) (ALp (wN ω) (wG ω q) (wP ω)) (usd (wN ω) (KPp (wN ω) (wG ω q) (wP ω)) (ALp (wN ω) (wG ω q) (wP ω)) i) (frow (wN ω) (KPp (wN ω) (wG ω q) (wP ω)) (ALp (wN ω) (wG ω q) (wP ω)) i) = true := sr_yes _ _ _ (by show frow (wN ω) (KPp (wN ω) (wG ω q) (wP ω)) (ALp (wN ω) (wG ω q) (wP ω)) i < _; omega)
        rw [hfwE _ hfli, decide_eq_true_eq, u2] at hyes
        obtain ⟨y1, y2⟩ := hyes
        have hno : ∀ w, w < frow (wN ω) (KPp (wN ω) (wG ω q) (wP ω)) (ALp (wN ω) (wG ω q) (wP ω)) i → ¬ _ := fun w hw => by
          have := hno w hw
          rw [hfwE w (by omega), decide_eq_false_iff_not, u2] at this
          exact this
        generalize usd (wN ω) (KPp (wN ω) (wG ω q) (wP ω)) (ALp (wN ω) (wG ω q) (wP ω)) i = u at *
        have hfi : ∀ j, j < i → F4 (51 + j) = _ := a2
        generalize hfw : frow (wN ω) (KPp (wN ω) (wG ω q) (wP ω)) (ALp (wN ω) (wG ω q) (wP ω)) i = m at hno hfli y1 y2 ih
        generalize hLe : Lof (wN ω) (pc (wP ω)) (mM (wN ω) (KPp (wN ω) (wG ω q) (wP ω)) (ALp (wN ω) (wG ω q) (wP ω))) = L at hno y2 e2 hLb
        have u128 : u < 2 ^ wN ω := by omega
        have g9 := xat_fr p1 fr4 (by omega)
        have g10 := xat_fr e1 fr4 (by omega)
        have evu := e2 u u128
        have hbu := hLb u
        refine xgoal [(49, [0, 3, 4, 5]), (61, [0, 3, 4, 5, 6])] 100 ok_Mo_mend ?_
        refine xci (sp_Mo_size bb) ?_
        refine pk_le (wN ω) i (fun z => absurd z (by omega)) (fun _ => ?_)
        have cell : ∀ w, w < wN ω → ¬ u / 2 ^ w % 2 = 1 → (nI 7 * nI i + nI w = nI (7 * i + w)) ∧ 7 * i + w < 49 ∧ (nI u ||| nI 1 <<< (nI w &&& 31) = nI (u ||| 2 ^ w)) ∧ u ||| 2 ^ w < 128 ∧ pr (7 * i + w) + le (u ||| 2 ^ w) = nI (prP (wN ω) (wG ω q) (wP ω) i w + L (u ||| 2 ^ w)) ∧ prP (wN ω) (wG ω q) (wP ω) i w + L (u ||| 2 ^ w) < 2147483648 := fun w hw hb => by
          obtain ⟨v1, v2, -⟩ := or_up hn u128 hw hb
          have hb1 := hPb i w
          have hb2 := hLb (u ||| 2 ^ w)
          exact ⟨by rw [n_mul, nI_add], by omega, by rw [n_shl _ _ (by omega), Nat.one_mul, n_or], by omega, by rw [p2 i hi w hw, e2 _ v2, nI_add], by omega⟩
        have eb : ∀ w, w < wN ω → nI u >>> (nI w &&& 31) &&& nI 1 = nI (u / 2 ^ w % 2) := fun w hw => by rw [n_shr (by omega) (by omega), n_and, show (1 : Nat) = 2 ^ 1 - 1 from rfl, Nat.and_two_pow_sub_one_eq_mod]
        refine up_loop (P := fun w => xAt (h.1, h.2.1) g_Mo_mend Q 61 [(0, .ref B), (3, .int cI), (4, .int (nI u)), (5, .int (nI i)), (6, .int (nI w))] [] k4) m ?_ (fun w hw ih2 => ?_) 0 (Nat.zero_le _)
        · obtain ⟨x1, x2, x3, x4, x5, x6⟩ := cell m hfli y1
          have ih := ih (xset k4 (B + 1) (xia 1620 (upd F4 (51 + i) (nI m)))) _ (frm_set fr4 (by omega) (by omega)) (xat_sf g4.1) (fun y hy => by unfold upd; rw [if_neg (by omega)]; exact a1 y hy) (fun j hj => by
            unfold upd
            by_cases e : j = i
            · rw [if_pos (by omega), e, hfw]
            · rw [if_neg (by omega)]; exact hfi j (by omega))
          rw [← x3, ← nI_1 i] at ih
          refine xgoal [(49, [0, 3, 4, 5]), (61, [0, 3, 4, 5, 6])] 100 ok_Mo_mend ?_
          refine pk_eq (u / 2 ^ m % 2) 1 (fun z => absurd z y1) (fun _ => ?_) (eb m hfli) rfl
          refine xgf o4 rfl ?_
          refine xal g9 x1 x2 (by decide) ?_
          refine xgf o4 rfl ?_
          refine xal g10 x3 x4 (by decide) ?_
          refine xgf o4 rfl ?_
          refine xal g10 rfl (show u < 128 by omega) (by decide) ?_
          refine pk_eq _ (L u) (fun _ => ?_) (fun z => absurd y2 z) x5 evu x6
          refine xgf o4 rfl ?_
          refine xal g4 (nI_add 51 i) (show 51 + i < 1620 by omega) (by decide) ?_
          exact ih
        · have hwn : w < wN ω := by omega
          rw [← nI_1 w] at ih2
          refine xgoal [(61, [0, 3, 4, 5, 6])] 100 ok_Mo_mend ?_
          refine pk_eq (u / 2 ^ w % 2) 1 (fun _ => ih2) (fun hb => ?_) (eb w hwn) rfl
          obtain ⟨x1, x2, x3, x4, x5, x6⟩ := cell w hwn hb
          refine xgf o4 rfl ?_
          refine xal g9 x1 x2 (by decide) ?_
          refine xgf o4 rfl ?_
          refine xal g10 x3 x4 (by decide) ?_
          refine xgf o4 rfl ?_
          refine xal g10 rfl (show u < 128 by omega) (by decide) ?_
          exact pk_eq _ (L u) (fun z => absurd ⟨hb, z⟩ (hno w hw)) (fun _ => ih2) x5 evu x6
theorem sp_Mo_best {h : xHp} {B : Nat} {ω : Wv} {r : Int32} (w : isM h B ω) (k : wok ω) : SpecR g_Mo_best [.ref B, .int r] h (pM h B (stBest ω r)) := by
  obtain ⟨F, tx, w⟩ := w
  obtain ⟨fs, hrc⟩ := bM_rc w.b
  refine SpecR.of (by decide +kernel) (Nat.le_of_ble_eq_true rfl) (fun c hc => by cases hc; exact ⟨_, _, _, rfl, hrc⟩) (fun v h' z => ⟨⟨_, z.1⟩, z.2.2.1, z.2.2.2.1⟩) (fun Q hQ => ?_)
  generalize hO : stBest ω r = o at hQ
  unfold stBest at hO
  have bad : ∀ c, (c, ω) = o → Q (some (.int c)) h := fun c e => by subst e; exact hQ _ _ ⟨rfl, ⟨F, tx, w⟩, frm_rf⟩
  have fin : ∀ (v : Int32) (ω' : Wv) (h' : xHp) (F' tx' : Nat → Int32), (v, ω') = o → isMF h' B ω' F' tx' → frm h h' B (B + 14) → Q (some (.int v)) h' := fun v ω' h' F' tx' e w' f => by subst e; exact hQ _ _ ⟨rfl, ⟨F', tx', w'⟩, f⟩
  have hn1 : 2 ≤ wN ω := k.1.1
  have hn : wN ω ≤ 7 := k.1.2.1
  have hS : ∀ i, i < wN ω → sS ω.1 i < 4 := k.1.2.2.1
  have hG : ∀ r, r < 6 → PM (wN ω) (wG ω r) := k.1.2.2.2.1
  have hP : pok (wN ω) (wP ω) := k.1.2.2.2.2
  refine xgoal [(26, [0, 1, 3, 4, 5])] 100 ok_Mo_best ?_
  cases hr : ix 6 r with
  | none =>
    rw [gdN hr] at hO
    refine xci (sp_Mo_wrong (v := -1) w k ⟨fun _ => rfl, fun q z => by rw [hr] at z; cases z⟩) ?_
    exact And.intro (fun z => absurd z (by decide)) (fun _ => bad _ hO)
  | some q =>
    obtain ⟨e, hlt⟩ := ix_some hr
    subst e
    rw [gdS hr] at hO
    by_cases c0 : pc (wP ω) = 0
    · rw [if_pos c0] at hO
      refine xci (sp_Mo_wrong (v := -2) w k ⟨fun z => (by rw [hr] at z; cases z), fun _ _ => (if_pos c0).symm⟩) ?_
      exact And.intro (fun z => absurd z (by decide)) (fun _ => bad _ hO)
    rw [if_neg c0] at hO
    refine xci (sp_Mo_wrong (v := nI 0) w k ⟨fun z => (by rw [hr] at z; cases z), fun _ _ => (if_neg c0).symm⟩) ?_
    refine pk_eq 0 0 (fun _ => ?_) (fun z => absurd rfl z)
    have hc8 := hP.1
    have h5 := fct_le hn
    have hmk : ∀ x, mk (wN ω) (wP ω) x ≤ wN ω * pc (wP ω) + 1 := fun x => (cst_le hn hP (unr_PM (wN ω) x)).1
    have hnc : wN ω * pc (wP ω) ≤ 56 := (cst_le hn hP (unr_PM (wN ω) 0)).2
    refine xrec w k (fun h1 F1 w1 hF1 fr1 => ?_)
    refine up_loop (P := fun x => ∀ k2, frm h k2 B (B + 14) → isMF k2 B (rcd ω) F1 tx → xAt (h.1, h.2.1) g_Mo_best Q 26 [(0, .ref B), (1, .int (nI q)), (3, .int (if (bst (mk (wN ω) (wP ω)) x).1 = 0 then -9 else nI (wN ω * pc (wP ω) + 1 - (bst (mk (wN ω) (wP ω)) x).1))), (4, .int (if (bst (mk (wN ω) (wP ω)) x).1 = 0 then -9 else nI (bst (mk (wN ω) (wP ω)) x).2)), (5, .int (nI x))] [] k2) (fct (wN ω)) (fun k2 fr2 w2 => ?_) (fun x hx ih k2 fr2 w2 => ?_) 0 (Nat.zero_le _) h1 fr1 w1
    · have hble := bst_le (mk (wN ω) (wP ω)) (fct (wN ω))
      obtain ⟨l2, m2, s2, o2⟩ := w2.1
      generalize hbs : bst (mk (wN ω) (wP ω)) (fct (wN ω)) = bb at hO hble
      by_cases cb : bb.1 = 0
      · rw [if_pos cb] at hO
        rw [if_pos cb, if_pos cb]
        refine xgoal [] 100 ok_Mo_best ?_
        refine xci (sp_Mo_factorial w2.b hn1 hn) ?_
        refine pk_le (fct (wN ω)) (fct (wN ω)) (fun _ => ?_) (fun z => absurd z (by omega))
        exact And.intro (fun _ => fin _ _ _ _ tx hO w2 fr2) (fun z => absurd rfl z)
      · rw [if_neg cb] at hO
        rw [if_neg cb, if_neg cb]
        obtain ⟨b1, b2⟩ := hble cb
        have b2 : cst (wN ω) (unr (wN ω) bb.2) (wP ω) = bb.1 := b2
        have ec : cstI (wN ω) (unr (wN ω) bb.2) (wP ω) = nI (wN ω * pc (wP ω) + 1 - bb.1) := by unfold cstI; rw [b2, if_neg cb]
        rw [ec] at hO
        refine xgoal [] 100 ok_Mo_best ?_
        refine xci (sp_Mo_factorial w2.b hn1 hn) ?_
        refine pk_le (fct (wN ω)) (fct (wN ω)) (fun _ => ?_) (fun z => absurd z (by omega))
        refine And.intro (fun z => absurd z (nI_m9 (by omega))) (fun _ => ?_)
        refine xgf o2 rfl ?_
        refine xunr w2 (rcd_ok k) (x := bb.2) (by omega) (c := 4) (by omega) (by omega) (fun h3 w3 r3 fr3 => ?_)
        obtain ⟨l3, m3, s3, o3⟩ := w3.1
        refine xgf o3 rfl ?_
        refine xputs w3 (rcd_ok k) hlt r3 (by omega) (fun h4 F4 w4 fr4 => ?_)
        exact fin _ _ _ _ tx hO w4 (frm_tr (frm_tr fr2 fr3 (by omega) (by omega)) fr4 (by omega) (by omega))
    · have hmx := hmk x
      have hbx := bst_fst_le (B := wN ω * pc (wP ω) + 1) x (fun y _ => hmk y)
      have ebs : bst (mk (wN ω) (wP ω)) (x + 1) = if (bst (mk (wN ω) (wP ω)) x).1 < mk (wN ω) (wP ω) x then (mk (wN ω) (wP ω) x, x) else bst (mk (wN ω) (wP ω)) x := rfl
      rw [ebs] at ih
      obtain ⟨l2, m2, s2, o2⟩ := w2.1
      have hpm := unr_PM (wN ω) x
      have ecI : cstI (wN ω) (unr (wN ω) x) (wP ω) = if mk (wN ω) (wP ω) x = 0 then -9 else nI (wN ω * pc (wP ω) + 1 - mk (wN ω) (wP ω) x) := rfl
      generalize mk (wN ω) (wP ω) x = mx at ih hmx ecI
      generalize bst (mk (wN ω) (wP ω)) x = bb at ih hbx
      have go : ∀ (k4 : xHp) (v3 v4 : Int32), frm h k4 B (B + 14) → isMF k4 B (rcd ω) F1 tx → (¬ bb.1 < mx → v3 = (if bb.1 = 0 then -9 else nI (wN ω * pc (wP ω) + 1 - bb.1)) ∧ v4 = (if bb.1 = 0 then -9 else nI bb.2)) → (bb.1 < mx → v3 = nI (wN ω * pc (wP ω) + 1 - mx) ∧ v4 = nI x) → xAt (h.1, h.2.1) g_Mo_best Q 26 [(0, .ref B), (1, .int (nI q)), (3, .int v3), (4, .int v4), (5, .int (nI x + 1))] [] k4 := by
        intro k4 v3 v4 fr4 w4 z1 z2
        have ih := ih k4 fr4 w4
        by_cases c : bb.1 < mx
        · rw [if_pos c, if_neg (show ¬ (mx, x).1 = 0 from fun z => by have z : mx = 0 := z; omega), if_neg (show ¬ (mx, x).1 = 0 from fun z => by have z : mx = 0 := z; omega)] at ih
          rw [(z2 c).1, (z2 c).2, nI_1 x]
          exact ih
        · rw [if_neg c] at ih
          rw [(z1 c).1, (z1 c).2, nI_1 x]
          exact ih
      by_cases cb : bb.1 = 0
      · rw [if_pos cb, if_pos cb]
        refine xgoal [(26, [0, 1, 3, 4, 5])] 100 ok_Mo_best ?_
        refine xci (sp_Mo_factorial w2.b hn1 hn) ?_
        refine pk_le (fct (wN ω)) x (fun z => absurd z (by omega)) (fun _ => ?_)
        refine xgf o2 rfl ?_
        refine xunr w2 (rcd_ok k) (x := x) (by omega) (c := 4) (by omega) (by omega) (fun h3 w3 r3 fr3 => ?_)
        obtain ⟨l3, m3, s3, o3⟩ := w3.1
        refine xgf o3 rfl ?_
        refine xri (sp_Mo_costOf w3 (rcd_ok k) hpm r3 (Or.inr rfl)) ?_
        rintro v h4 ⟨e, w4, -, fr4⟩
        have e : some (Value.int v) = some (Value.int (cstI (wN ω) (unr (wN ω) x) (wP ω))) := e
        rw [ecI] at e
        cases e
        have fr24 := frm_tr (frm_tr fr2 fr3 (by omega) (by omega)) fr4 (by omega) (by omega)
        by_cases cm : mx = 0
        · rw [if_pos cm]
          refine And.intro (fun _ => ?_) (fun z => absurd rfl z)
          exact go h4 _ _ fr24 w4 (fun _ => ⟨by rw [if_pos cb], by rw [if_pos cb]⟩) (fun z => absurd z (by omega))
        · rw [if_neg cm]
          refine And.intro (fun z => absurd z (nI_m9 (by omega))) (fun _ => ?_)
          refine And.intro (fun _ => ?_) (fun z => absurd rfl z)
          exact go h4 _ _ fr24 w4 (fun z => absurd (by omega) z) (fun _ => ⟨rfl, rfl⟩)
      · rw [if_neg cb, if_neg cb]
        refine xgoal [(26, [0, 1, 3, 4, 5])] 100 ok_Mo_best ?_
        refine xci (sp_Mo_factorial w2.b hn1 hn) ?_
        refine pk_le (fct (wN ω)) x (fun z => absurd z (by omega)) (fun _ => ?_)
        refine xgf o2 rfl ?_
        refine xunr w2 (rcd_ok k) (x := x) (by omega) (c := 4) (by omega) (by omega) (fun h3 w3 r3 fr3 => ?_)
        obtain ⟨l3, m3, s3, o3⟩ := w3.1
        refine xgf o3 rfl ?_
        refine xri (sp_Mo_costOf w3 (rcd_ok k) hpm r3 (Or.inr rfl)) ?_
        rintro v h4 ⟨e, w4, -, fr4⟩
        have e : some (Value.int v) = some (Value.int (cstI (wN ω) (unr (wN ω) x) (wP ω))) := e
        rw [ecI] at e
        cases e
        have fr24 := frm_tr (frm_tr fr2 fr3 (by omega) (by omega)) fr4 (by omega) (by omega)
        by_cases cm : mx = 0
        · rw [if_pos cm]
          refine And.intro (fun _ => ?_) (fun z => absurd rfl z)
          exact go h4 _ _ fr24 w4 (fun _ => ⟨by rw [if_neg cb], by rw [if_neg cb]⟩) (fun z => absurd z (by omega))
        · rw [if_neg cm]
          refine And.intro (fun z => absurd z (nI_m9 (by omega))) (fun _ => ?_)
          refine And.intro (fun z => absurd z (nI_m9 (by omega))) (fun _ => ?_)
          refine pk_le (wN ω * pc (wP ω) + 1 - bb.1) (wN ω * pc (wP ω) + 1 - mx) (fun z => ?_) (fun z => ?_)
          · exact go h4 _ _ fr24 w4 (fun _ => ⟨by rw [if_neg cb], by rw [if_neg cb]⟩) (fun z => absurd z (by omega))
          · exact go h4 _ _ fr24 w4 (fun z => absurd (by omega) z) (fun _ => ⟨rfl, rfl⟩)
