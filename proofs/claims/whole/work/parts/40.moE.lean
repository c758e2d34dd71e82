/-! THE REFERENCE'S CALLS: the poem's stanzas -/
theorem pg0 {F : Nat → Int32} {σ : Sv} : pg F 0 σ ↔ F 0 = nI (sN σ) ∧ (∀ i, i < sN σ → F (1 + i) = nI (sS σ i)) ∧ (∀ r, r < 6 → ∀ i, i < sN σ → F (8 + 7 * r + i) = nI (sR σ r i)) ∧ F 50 = nI (pc (sP σ)) ∧
  (∀ s, s < pc (sP σ) → ∀ i, i < sN σ → F (51 + 7 * s + i) = nI (pst (sP σ) s i)) ∧ (∀ s, s < pc (sP σ) → ∀ i, i < sN σ → F (107 + 7 * s + i) = nI (plk (sP σ) s / 2 ^ i % 2)) ∧
  F 163 = nI (ptl (sP σ)) ∧ (∀ l, l < ptl (sP σ) → F (164 + l) = nI (ptn (sP σ) l)) ∧ ∀ l, l < ptl (sP σ) → ∀ k, k < ptn (sP σ) l → F (168 + 3 * l + k) = nI (ptw (sP σ) l k) := by
  unfold pg
  simp only [Nat.zero_add]
theorem bMk {h1 k : xHp} {B n : Nat} {r t l m s : Int32} {F : Nat → Int32} (o : xat h1 B (obM B r t l m s)) (f : frm h1 k (B + 1) (B + 2)) (g : xat k (B + 1) (xia 1620 F)) (e : F 0 = nI n) : bM k B n F := ⟨⟨_, _, _, _, _, xat_fr o f (by omega)⟩, g, e⟩
theorem lk_off : ∀ m, m < 128 → ∀ i, i < 7 → ∀ j, j < 7 → (m &&& (2 ^ i ^^^ 4294967295)) / 2 ^ j % 2 = if j = i then 0 else m / 2 ^ j % 2 := by decide +kernel
theorem lk_on : ∀ m, m < 128 → ∀ i, i < 7 → ∀ j, j < 7 → (m ||| 2 ^ i) / 2 ^ j % 2 = if j = i then 1 else m / 2 ^ j % 2 := by decide +kernel
theorem sp_Mo_add {h : xHp} {B : Nat} {ω : Wv} {r : Int32} (w : isM h B ω) (k : wok ω) : SpecR g_Mo_add [.ref B, .int r] h (pM h B (stAdd ω r)) := by
  obtain ⟨F, tx, w⟩ := w
  obtain ⟨fs, hrc⟩ := bM_rc w.b
  refine SpecR.of (by decide +kernel) (Nat.le_of_ble_eq_true rfl) (fun c hc => by cases hc; exact ⟨_, _, _, rfl, hrc⟩) (fun v h' z => ⟨⟨_, z.1⟩, z.2.2.1, z.2.2.2.1⟩) (fun Q hQ => ?_)
  generalize hO : stAdd ω r = o at hQ
  unfold stAdd at hO
  have bad : ∀ c, (c, ω) = o → Q (some (.int c)) h := fun c e => by subst e; exact hQ _ _ ⟨rfl, ⟨F, tx, w⟩, frm_rf⟩
  have fin : ∀ (v : Int32) (ω' : Wv) (h' : xHp) (F' tx' : Nat → Int32), (v, ω') = o → isMF h' B ω' F' tx' → frm h h' B (B + 14) → Q (some (.int v)) h' := fun v ω' h' F' tx' e w' f => by subst e; exact hQ _ _ ⟨rfl, ⟨F', tx', w'⟩, f⟩
  have hn1 : 2 ≤ wN ω := k.1.1
  have hn : wN ω ≤ 7 := k.1.2.1
  have hS : ∀ i, i < wN ω → sS ω.1 i < 4 := k.1.2.2.1
  have hG : ∀ r, r < 6 → PM (wN ω) (wG ω r) := k.1.2.2.2.1
  have hP : pok (wN ω) (wP ω) := k.1.2.2.2.2
  refine xgoal [(47, [0, 2, 3])] 100 ok_Mo_add ?_
  refine xci (sp_Mo_isRegister r h) ?_
  refine gdX (fun z => ?_) (fun q hq e hlt => ?_)
  · rw [gdN z] at hO; exact bad _ hO
  subst e
  rw [gdS hq] at hO
  obtain ⟨l0, m0, s0, o0⟩ := w.1
  have p0 := pg0.mp w.2.2.1.1
  refine xgf o0 rfl ?_
  refine xal w.2.1 rfl (show 50 < 1620 by omega) (by decide) ?_
  refine pk_eq (pc (wP ω)) 8 (fun c => ?_) (fun c => ?_) p0.2.2.2.1 rfl (by have := hP.1; omega)
  · rw [if_pos (by omega)] at hO; exact bad _ hO
  have c8 : pc (wP ω) < 8 := by have := hP.1; omega
  rw [if_neg (by omega)] at hO
  refine xrec w k (fun h1 F1 w1 hF1 fr1 => ?_)
  obtain ⟨l1, m1, s1, o1⟩ := w1.1
  refine xgf o1 rfl ?_
  refine xal w1.2.1 rfl (show 50 < 1620 by omega) (by decide) ?_
  refine xgf o1 rfl ?_
  refine xtakes w1 hn hlt (c := 3) (by omega) (by omega) (fun h2 w2 r2 fr2 => ?_)
  obtain ⟨l2, m2, s2, o2⟩ := w2.1
  obtain ⟨g3, g31, g32⟩ := r2
  have g32 : ∀ i, i < wN ω → g3 i = nI (wG ω q i) := g32
  obtain ⟨q1, q2, q3, q4, q5, q6, q7, q8, q9⟩ := pg0.mp w2.2.2.1.1
  have q4 : F1 50 = nI (pc (wP ω)) := q4
  generalize hf : (fun i => if pc (wP ω) = 0 then i else pst (wP ω) (pc (wP ω) - 1) (wG ω q i)) = f at hO
  generalize hc : pc (wP ω) = c at c8 hf hO
  have key := up_loop (P := fun i => ∀ (k4 : xHp) (F4 : Nat → Int32), frm h2 k4 (B + 1) (B + 2) → xat k4 (B + 1) (xia 1620 F4) → (∀ x, (x < 51 + 7 * c ∨ 51 + 7 * c + i ≤ x) → (x < 107 + 7 * c ∨ 107 + 7 * c + i ≤ x) → F4 x = F1 x) → (∀ j, j < i → F4 (51 + 7 * c + j) = nI (f j)) → (∀ j, j < i → F4 (107 + 7 * c + j) = nI 0) → xAt (h.1, h.2.1) g_Mo_add Q 47 [(0, .ref B), (2, .int (F1 50)), (3, .int (nI i))] [] k4) (wN ω) ?_ (fun i hi ih => ?_) 0 (Nat.zero_le _)
  · exact key h2 F1 frm_rf w2.2.1 (fun _ _ _ => rfl) (fun j hj => absurd hj (Nat.not_lt_zero j)) (fun j hj => absurd hj (Nat.not_lt_zero j))
  · intro k4 F4 fr4 g4 e1 e2 e3
    have b4 : bM k4 B (wN ω) F4 := bMk o2 fr4 g4 ((e1 0 (by omega) (by omega)).trans q1)
    have o4 := xat_fr o2 fr4 (by omega)
    have e50 : F4 50 = nI c := (e1 50 (by omega) (by omega)).trans (q4.trans (by rw [hc]))
    refine xgoal [(47, [0, 2, 3])] 100 ok_Mo_add ?_
    refine xci (sp_Mo_size b4) ?_
    refine pk_le (wN ω) (wN ω) (fun _ => ?_) (fun z => absurd z (by omega))
    refine xgf o4 rfl ?_
    refine xal g4 rfl (show 50 < 1620 by omega) (by decide) ?_
    refine xal g4 rfl (show 50 < 1620 by omega) (by decide) ?_
    have fr5 : frm k4 (xset k4 (B + 1) (xia 1620 (upd F4 50 (F4 50 + nI 1)))) (B + 1) (B + 2) := frm_set frm_rf (by omega) (by omega)
    have g5 : xat (xset k4 (B + 1) (xia 1620 (upd F4 50 (F4 50 + nI 1)))) (B + 1) (xia 1620 (upd F4 50 (F4 50 + nI 1))) := xat_sf g4.1
    have hu : ∀ x, x ≠ 50 → upd F4 50 (F4 50 + nI 1) x = F4 x := fun x hx => by unfold upd; rw [if_neg hx]
    have hv : upd F4 50 (F4 50 + nI 1) 50 = nI (c + 1) := by unfold upd; rw [if_pos rfl, e50, nI_add]
    have w5 := w2.pgw (σ := withP ω.1 (padd (wP ω) f)) (frm_tr fr4 fr5 (by omega) (by omega)) g5 (by
      refine pg0.mpr ⟨(hu _ (by omega)).trans ((e1 _ (by omega) (by omega)).trans q1), fun i hi => ?_, fun r hr i hi => ?_, ?_, fun s hs i hi => ?_, fun s hs i hi => ?_, (hu _ (by omega)).trans ((e1 _ (by omega) (by omega)).trans q7), fun l hl => ?_, fun l hl k hk => ?_⟩
      · have hi : i < wN ω := hi
        exact (hu _ (by omega)).trans ((e1 _ (by omega) (by omega)).trans (q2 i hi))
      · have hi : i < wN ω := hi
        exact (hu _ (by omega)).trans ((e1 _ (by omega) (by omega)).trans (q3 r hr i hi))
      · show _ = nI (pc (wP ω) + 1)
        rw [hc]; exact hv
      · have hi : i < wN ω := hi
        have hs : s < pc (wP ω) + 1 := hs
        show _ = nI ((if s = pc (wP ω) then f else pst (wP ω) s) i)
        by_cases z : s = c
        · rw [if_pos (by omega), z]; exact (hu _ (by omega)).trans (e2 i hi)
        · rw [if_neg (by omega)]; exact (hu _ (by omega)).trans ((e1 _ (by omega) (by omega)).trans (q5 s (show s < pc (wP ω) by omega) i hi))
      · have hi : i < wN ω := hi
        have hs : s < pc (wP ω) + 1 := hs
        show _ = nI ((if s = pc (wP ω) then 0 else plk (wP ω) s) / 2 ^ i % 2)
        by_cases z : s = c
        · rw [if_pos (by omega), z, Nat.zero_div]; exact (hu _ (by omega)).trans (e3 i hi)
        · rw [if_neg (by omega)]; exact (hu _ (by omega)).trans ((e1 _ (by omega) (by omega)).trans (q6 s (show s < pc (wP ω) by omega) i hi))
      · exact (hu _ (by omega)).trans ((e1 _ (by omega) (by omega)).trans (q8 l hl))
      · exact (hu _ (by omega)).trans ((e1 _ (by omega) (by omega)).trans (q9 l hl k hk))) (pgs_hi (rcd_ok k).2.1 w2.2.2.1.2 (fun x hx => (hu x (by omega)).trans (e1 x (by omega) (by omega))))
    refine xgf (xat_fr o4 fr5 (by omega)) rfl ?_
    refine xal g5 rfl (show 50 < 1620 by omega) (by decide) ?_
    exact fin _ _ _ _ tx (by rw [hv]; exact hO) w5 (frm_tr (frm_tr fr1 fr2 (by omega) (by omega)) (frm_tr fr4 fr5 (Nat.le_refl _) (Nat.le_refl _)) (by omega) (by omega))
  · intro k4 F4 fr4 g4 e1 e2 e3
    have b4 : bM k4 B (wN ω) F4 := bMk o2 fr4 g4 ((e1 0 (by omega) (by omega)).trans q1)
    have o4 := xat_fr o2 fr4 (by omega)
    have spp := sp_Mo_placeOf (s := c) (i := i) b4
    have e50 : F1 50 = nI c := q4.trans (by rw [hc])
    rw [← e50] at spp
    -- behind the word's writing
    have rest : ∀ (v : Int32) (k5 : xHp), k5 = xset k4 (B + 1) (xia 1620 (upd F4 (51 + (7 * c + i)) v)) → v = nI (f i) → (∀ k6, k6 = xset k5 (B + 1) (xia 1620 (upd (upd F4 (51 + (7 * c + i)) v) (107 + (7 * c + i)) (nI 0))) → xAt (h.1, h.2.1) g_Mo_add Q 47 [(0, .ref B), (2, .int (F1 50)), (3, .int (nI i + 1))] [] k6) := by
      intro v k5 e5 ev k6 e6
      have g5 : xat k5 (B + 1) (xia 1620 (upd F4 (51 + (7 * c + i)) v)) := by rw [e5]; exact xat_sf g4.1
      have fr6 : frm h2 k6 (B + 1) (B + 2) := by rw [e6, e5]; exact frm_set (frm_set fr4 (by omega) (by omega)) (by omega) (by omega)
      have ih := ih k6 (upd (upd F4 (51 + (7 * c + i)) v) (107 + (7 * c + i)) (nI 0)) fr6 (by rw [e6]; exact xat_sf g5.1) (fun x h1 h2 => by
        unfold upd; rw [if_neg (by omega), if_neg (by omega)]; exact e1 x (by omega) (by omega)) (fun j hj => by
        unfold upd
        rw [if_neg (by omega)]
        by_cases z : j = i
        · rw [if_pos (by omega), z]; exact ev
        · rw [if_neg (by omega)]; exact e2 j (by omega)) (fun j hj => by
        unfold upd
        by_cases z : j = i
        · rw [if_pos (by omega)]
        · rw [if_neg (by omega), if_neg (by omega)]; exact e3 j (by omega))
      rw [← nI_1 i] at ih
      exact ih
    have sec : ∀ (v : Int32), v = nI (f i) → bM (xset k4 (B + 1) (xia 1620 (upd F4 (51 + (7 * c + i)) v))) B (wN ω) (upd F4 (51 + (7 * c + i)) v) ∧ xat (xset k4 (B + 1) (xia 1620 (upd F4 (51 + (7 * c + i)) v))) B (obM B (nI (rcd ω).2.1.length) (nI (wT ω)) l2 m2 s2) := fun v ev =>
      ⟨bMk o2 (frm_set fr4 (by omega) (by omega)) (xat_sf g4.1) (by unfold upd; rw [if_neg (by omega)]; exact (e1 0 (by omega) (by omega)).trans q1), xat_set o4 (by omega)⟩
    refine xgoal [(47, [0, 2, 3])] 100 ok_Mo_add ?_
    refine xci (sp_Mo_size b4) ?_
    refine pk_le (wN ω) i (fun z => absurd z (by omega)) (fun _ => ?_)
    refine xgf o4 rfl ?_
    refine xci spp ?_
    refine pk_eq c 0 (fun c0 => ?_) (fun c0 => ?_) e50 rfl
    · have ev : nI i = nI (f i) := by rw [← hf]; show nI i = nI (if c = 0 then i else _); rw [if_pos c0]
      obtain ⟨b5, o5⟩ := sec _ ev
      refine xal g4 (nI_add 51 (7 * c + i)) (show 51 + (7 * c + i) < 1620 by omega) (by decide) ?_
      refine xgf o5 rfl ?_
      have spq := sp_Mo_placeOf (s := c) (i := i) b5
      rw [← e50] at spq
      refine xci spq ?_
      refine xal (xat_sf g4.1) (nI_add 107 (7 * c + i)) (show 107 + (7 * c + i) < 1620 by omega) (by decide) ?_
      exact rest _ _ rfl ev _ rfl
    · have hg := (hG q hlt).1 i hi
      have ev : F4 (51 + (7 * (c - 1) + wG ω q i)) = nI (f i) := by
        rw [← hf]
        show _ = nI (if c = 0 then i else pst (wP ω) (c - 1) (wG ω q i))
        rw [if_neg c0, ← Nat.add_assoc, e1 _ (by omega) (by omega)]
        exact q5 (c - 1) (show c - 1 < pc (wP ω) by omega) _ hg
      obtain ⟨b5, o5⟩ := sec _ ev
      refine xgf o4 rfl ?_
      refine xgf o4 rfl ?_
      refine xal (xat_fr g31 fr4 (by omega)) rfl (show i < 7 by omega) (by decide) ?_
      have spr := sp_Mo_placeOf (s := c - 1) (i := wG ω q i) b4
      rw [← pk_sub (show 1 ≤ c by omega), ← g32 i hi, ← e50] at spr
      refine xci spr ?_
      refine xal g4 (nI_add 51 _) (show 51 + (7 * (c - 1) + wG ω q i) < 1620 by omega) (by decide) ?_
      refine xal g4 (nI_add 51 (7 * c + i)) (show 51 + (7 * c + i) < 1620 by omega) (by decide) ?_
      refine xgf o5 rfl ?_
      have spq := sp_Mo_placeOf (s := c) (i := i) b5
      rw [← e50] at spq
      refine xci spq ?_
      refine xal (xat_sf g4.1) (nI_add 107 (7 * c + i)) (show 107 + (7 * c + i) < 1620 by omega) (by decide) ?_
      exact rest _ _ rfl ev _ rfl
theorem sp_Mo_drop {h : xHp} {B : Nat} {ω : Wv} (w : isM h B ω) (k : wok ω) : SpecR g_Mo_drop [.ref B] h (pM h B (stDrop ω)) := by
  obtain ⟨F, tx, w⟩ := w
  obtain ⟨fs, hrc⟩ := bM_rc w.b
  refine SpecR.of (by decide +kernel) (Nat.le_of_ble_eq_true rfl) (fun c hc => by cases hc; exact ⟨_, _, _, rfl, hrc⟩) (fun v h' z => ⟨⟨_, z.1⟩, z.2.2.1, z.2.2.2.1⟩) (fun Q hQ => ?_)
  generalize hO : stDrop ω = o at hQ
  unfold stDrop at hO
  have bad : ∀ c, (c, ω) = o → Q (some (.int c)) h := fun c e => by subst e; exact hQ _ _ ⟨rfl, ⟨F, tx, w⟩, frm_rf⟩
  have fin : ∀ (v : Int32) (ω' : Wv) (h' : xHp) (F' tx' : Nat → Int32), (v, ω') = o → isMF h' B ω' F' tx' → frm h h' B (B + 14) → Q (some (.int v)) h' := fun v ω' h' F' tx' e w' f => by subst e; exact hQ _ _ ⟨rfl, ⟨F', tx', w'⟩, f⟩
  have hn1 : 2 ≤ wN ω := k.1.1
  have hn : wN ω ≤ 7 := k.1.2.1
  have hS : ∀ i, i < wN ω → sS ω.1 i < 4 := k.1.2.2.1
  have hG : ∀ r, r < 6 → PM (wN ω) (wG ω r) := k.1.2.2.2.1
  have hP : pok (wN ω) (wP ω) := k.1.2.2.2.2
  refine xgoal [] 100 ok_Mo_drop ?_
  obtain ⟨l0, m0, s0, o0⟩ := w.1
  have p0 := pg0.mp w.2.2.1.1
  have hc8 := hP.1
  refine xgf o0 rfl ?_
  refine xal w.2.1 rfl (show 50 < 1620 by omega) (by decide) ?_
  refine pk_eq (pc (wP ω)) 0 (fun c => ?_) (fun c => ?_) p0.2.2.2.1 rfl
  · rw [if_pos c] at hO; exact bad _ hO
  rw [if_neg c] at hO
  refine xrec w k (fun h1 F1 w1 hF1 fr1 => ?_)
  obtain ⟨l1, m1, s1, o1⟩ := w1.1
  refine xgf o1 rfl ?_
  refine xal w1.2.1 rfl (show 50 < 1620 by omega) (by decide) ?_
  refine xal w1.2.1 rfl (show 50 < 1620 by omega) (by decide) ?_
  obtain ⟨q1, q2, q3, q4, q5, q6, q7, q8, q9⟩ := pg0.mp w1.2.2.1.1
  have q4 : F1 50 = nI (pc (wP ω)) := q4
  have fr5 : frm h1 (xset h1 (B + 1) (xia 1620 (upd F1 50 (F1 50 - nI 1)))) (B + 1) (B + 2) := frm_set frm_rf (by omega) (by omega)
  have hu : ∀ x, x ≠ 50 → upd F1 50 (F1 50 - nI 1) x = F1 x := fun x hx => by unfold upd; rw [if_neg hx]
  have hv : upd F1 50 (F1 50 - nI 1) 50 = nI (pc (wP ω) - 1) := by unfold upd; rw [if_pos rfl, q4, pk_sub (by omega)]
  have w5 := w1.pgw (σ := withP ω.1 (pc (wP ω) - 1, (wP ω).2)) fr5 (xat_sf w1.2.1.1) (by
    refine pg0.mpr ⟨(hu _ (by omega)).trans q1, fun i hi => (hu _ (by have : i < wN ω := hi; omega)).trans (q2 i hi), fun r hr i hi => ?_, hv, fun s hs i hi => ?_, fun s hs i hi => ?_, (hu _ (by omega)).trans q7, fun l hl => (hu _ (by omega)).trans (q8 l hl), fun l hl k hk => (hu _ (by omega)).trans (q9 l hl k hk)⟩
    · have hi : i < wN ω := hi
      exact (hu _ (by omega)).trans (q3 r hr i hi)
    · have hs : s < pc (wP ω) - 1 := hs
      have hi : i < wN ω := hi
      exact (hu _ (by omega)).trans (q5 s (show s < pc (wP ω) by omega) i hi)
    · have hs : s < pc (wP ω) - 1 := hs
      have hi : i < wN ω := hi
      exact (hu _ (by omega)).trans (q6 s (show s < pc (wP ω) by omega) i hi)) (pgs_hi (rcd_ok k).2.1 w1.2.2.1.2 (fun x hx => hu x (by omega)))
  refine xgf w5.1.choose_spec.choose_spec.choose_spec rfl ?_
  refine xal w5.2.1 rfl (show 50 < 1620 by omega) (by decide) ?_
  exact fin _ _ _ _ tx (by rw [hv]; exact hO) w5 (frm_tr fr1 fr5 (by omega) (by omega))
theorem sp_Mo_put {h : xHp} {B : Nat} {ω : Wv} {s i x : Int32} (w : isM h B ω) (k : wok ω) : SpecR g_Mo_put [.ref B, .int s, .int i, .int x] h (pM h B (stPut ω s i x)) := by
  obtain ⟨F, tx, w⟩ := w
  obtain ⟨fs, hrc⟩ := bM_rc w.b
  refine SpecR.of (by decide +kernel) (Nat.le_of_ble_eq_true rfl) (fun c hc => by cases hc; exact ⟨_, _, _, rfl, hrc⟩) (fun v h' z => ⟨⟨_, z.1⟩, z.2.2.1, z.2.2.2.1⟩) (fun Q hQ => ?_)
  generalize hO : stPut ω s i x = o at hQ
  unfold stPut at hO
  have bad : ∀ c, (c, ω) = o → Q (some (.int c)) h := fun c e => by subst e; exact hQ _ _ ⟨rfl, ⟨F, tx, w⟩, frm_rf⟩
  have fin : ∀ (v : Int32) (ω' : Wv) (h' : xHp) (F' tx' : Nat → Int32), (v, ω') = o → isMF h' B ω' F' tx' → frm h h' B (B + 14) → Q (some (.int v)) h' := fun v ω' h' F' tx' e w' f => by subst e; exact hQ _ _ ⟨rfl, ⟨F', tx', w'⟩, f⟩
  have hn1 : 2 ≤ wN ω := k.1.1
  have hn : wN ω ≤ 7 := k.1.2.1
  have hS : ∀ i, i < wN ω → sS ω.1 i < 4 := k.1.2.2.1
  have hG : ∀ r, r < 6 → PM (wN ω) (wG ω r) := k.1.2.2.2.1
  have hP : pok (wN ω) (wP ω) := k.1.2.2.2.2
  refine xgoal [] 100 ok_Mo_put ?_
  have hc8 := hP.1
  have p0 := pg0.mp w.2.2.1.1
  refine xci (sp_Mo_isStanza (p := pc (wP ω)) s w.b p0.2.2.2.1 hc8) ?_
  refine gdX (fun z => ?_) (fun a ha e hlt => ?_)
  · rw [gdN z] at hO; exact bad _ hO
  subst e
  rw [gdS ha] at hO
  refine xci (sp_Mo_isLine i w.b hn) ?_
  refine gdX (fun z => ?_) (fun b hb e hbn => ?_)
  · rw [gdN z] at hO; exact bad _ hO
  subst e
  rw [gdS hb] at hO
  refine xci (sp_Mo_isLine x w.b hn) ?_
  refine gdX (fun z => ?_) (fun d hd e hdn => ?_)
  · rw [gdN z] at hO; exact bad _ hO
  subst e
  rw [gdS hd] at hO
  refine xrec w k (fun h1 F1 w1 hF1 fr1 => ?_)
  obtain ⟨l1, m1, s1, o1⟩ := w1.1
  refine xgf o1 rfl ?_
  refine xci (sp_Mo_placeOf (s := a) (i := b) w1.b) ?_
  refine xal w1.2.1 (nI_add 51 (7 * a + b)) (show 51 + (7 * a + b) < 1620 by omega) (by decide) ?_
  refine xgf o1 rfl ?_
  refine xci (sp_Mo_placeOf (s := a) (i := b) w1.b) ?_
  refine xal w1.2.1 (nI_add 51 (7 * a + b)) (show 51 + (7 * a + b) < 1620 by omega) (by decide) ?_
  obtain ⟨q1, q2, q3, q4, q5, q6, q7, q8, q9⟩ := pg0.mp w1.2.2.1.1
  have hv : F1 (51 + (7 * a + b)) = nI (pst (wP ω) a b) := by rw [← Nat.add_assoc]; exact q5 a hlt b hbn
  have fr5 : frm h1 (xset h1 (B + 1) (xia 1620 (upd F1 (51 + (7 * a + b)) (nI d)))) (B + 1) (B + 2) := frm_set frm_rf (by omega) (by omega)
  have hu : ∀ x, x ≠ 51 + (7 * a + b) → upd F1 (51 + (7 * a + b)) (nI d) x = F1 x := fun x hx => by unfold upd; rw [if_neg hx]
  have w5 := w1.pgw (σ := withP ω.1 (pput (wP ω) a b d)) fr5 (xat_sf w1.2.1.1) (by
    refine pg0.mpr ⟨(hu _ (by omega)).trans q1, fun i hi => ?_, fun r hr i hi => ?_, (hu _ (by omega)).trans q4, fun s hs i hi => ?_, fun s hs i hi => ?_, (hu _ (by omega)).trans q7, fun l hl => ?_, fun l hl k hk => ?_⟩
    · have hi : i < wN ω := hi
      exact (hu _ (by omega)).trans (q2 i hi)
    · have hi : i < wN ω := hi
      exact (hu _ (by omega)).trans (q3 r hr i hi)
    · have hi : i < wN ω := hi
      have hs : s < pc (wP ω) := hs
      show _ = nI ((if s = a then upn (pst (wP ω) a) b d else pst (wP ω) s) i)
      by_cases e : s = a
      · rw [if_pos e, e]
        unfold upd upn
        by_cases e2 : i = b
        · rw [if_pos (by omega), if_pos e2]
        · rw [if_neg (by omega), if_neg e2]; exact q5 a hlt i hi
      · rw [if_neg e]; exact (hu _ (by omega)).trans (q5 s hs i hi)
    · have hi : i < wN ω := hi
      exact (hu _ (by omega)).trans (q6 s hs i hi)
    · exact (hu _ (by omega)).trans (q8 l hl)
    · exact (hu _ (by omega)).trans (q9 l hl k hk)) (pgs_hi (rcd_ok k).2.1 w1.2.2.1.2 (fun x hx => hu x (by omega)))
  exact fin _ _ _ _ tx (by rw [hv]; exact hO) w5 (frm_tr fr1 fr5 (by omega) (by omega))
theorem sp_Mo_lock {h : xHp} {B : Nat} {ω : Wv} {s i x : Int32} (w : isM h B ω) (k : wok ω) : SpecR g_Mo_lock [.ref B, .int s, .int i, .int x] h (pM h B (stLock ω s i x)) := by
  obtain ⟨F, tx, w⟩ := w
  obtain ⟨fs, hrc⟩ := bM_rc w.b
  refine SpecR.of (by decide +kernel) (Nat.le_of_ble_eq_true rfl) (fun c hc => by cases hc; exact ⟨_, _, _, rfl, hrc⟩) (fun v h' z => ⟨⟨_, z.1⟩, z.2.2.1, z.2.2.2.1⟩) (fun Q hQ => ?_)
  generalize hO : stLock ω s i x = o at hQ
  unfold stLock at hO
  have bad : ∀ c, (c, ω) = o → Q (some (.int c)) h := fun c e => by subst e; exact hQ _ _ ⟨rfl, ⟨F, tx, w⟩, frm_rf⟩
  have fin : ∀ (v : Int32) (ω' : Wv) (h' : xHp) (F' tx' : Nat → Int32), (v, ω') = o → isMF h' B ω' F' tx' → frm h h' B (B + 14) → Q (some (.int v)) h' := fun v ω' h' F' tx' e w' f => by subst e; exact hQ _ _ ⟨rfl, ⟨F', tx', w'⟩, f⟩
  have hn1 : 2 ≤ wN ω := k.1.1
  have hn : wN ω ≤ 7 := k.1.2.1
  have hS : ∀ i, i < wN ω → sS ω.1 i < 4 := k.1.2.2.1
  have hG : ∀ r, r < 6 → PM (wN ω) (wG ω r) := k.1.2.2.2.1
  have hP : pok (wN ω) (wP ω) := k.1.2.2.2.2
  refine xgoal [] 100 ok_Mo_lock ?_
  have hc8 := hP.1
  have p0 := pg0.mp w.2.2.1.1
  refine xci (sp_Mo_isStanza (p := pc (wP ω)) s w.b p0.2.2.2.1 hc8) ?_
  refine gdX (fun z => ?_) (fun a ha e hlt => ?_)
  · rw [gdN z] at hO; exact bad _ hO
  subst e
  rw [gdS ha] at hO
  refine xci (sp_Mo_isLine i w.b hn) ?_
  refine gdX (fun z => ?_) (fun b hb e hbn => ?_)
  · rw [gdN z] at hO; exact bad _ hO
  subst e
  rw [gdS hb] at hO
  refine xrec w k (fun h1 F1 w1 hF1 fr1 => ?_)
  obtain ⟨l1, m1, s1, o1⟩ := w1.1
  refine xgf o1 rfl ?_
  refine xci (sp_Mo_placeOf (s := a) (i := b) w1.b) ?_
  refine xal w1.2.1 (nI_add 107 (7 * a + b)) (show 107 + (7 * a + b) < 1620 by omega) (by decide) ?_
  refine xgf o1 rfl ?_
  refine xci (sp_Mo_placeOf (s := a) (i := b) w1.b) ?_
  obtain ⟨q1, q2, q3, q4, q5, q6, q7, q8, q9⟩ := pg0.mp w1.2.2.1.1
  have hv : F1 (107 + (7 * a + b)) = nI (plk (wP ω) a / 2 ^ b % 2) := by rw [← Nat.add_assoc]; exact q6 a hlt b hbn
  have hk7 : plk (wP ω) a < 128 := Nat.lt_of_lt_of_le (hP.2.2.1 a hlt) (Nat.pow_le_pow_right (n := 2) (by omega) (show wN ω ≤ 7 from hn))
  have fin2 : ∀ (m v : Nat), (∀ j, j < 7 → m / 2 ^ j % 2 = if j = b then v else plk (wP ω) a / 2 ^ j % 2) → (nI (plk (wP ω) a / 2 ^ b % 2), wS ω (withP ω.1 (plok (wP ω) a m))) = o → Q (some (.int (F1 (107 + (7 * a + b))))) (xset h1 (B + 1) (xia 1620 (upd F1 (107 + (7 * a + b)) (nI v)))) := by
    intro m v hm hO
    have fr5 : frm h1 (xset h1 (B + 1) (xia 1620 (upd F1 (107 + (7 * a + b)) (nI v)))) (B + 1) (B + 2) := frm_set frm_rf (by omega) (by omega)
    have hu : ∀ x, x ≠ 107 + (7 * a + b) → upd F1 (107 + (7 * a + b)) (nI v) x = F1 x := fun x hx => by unfold upd; rw [if_neg hx]
    have w5 := w1.pgw (σ := withP ω.1 (plok (wP ω) a m)) fr5 (xat_sf w1.2.1.1) (by
      refine pg0.mpr ⟨(hu _ (by omega)).trans q1, fun i hi => ?_, fun r hr i hi => ?_, (hu _ (by omega)).trans q4, fun s hs i hi => ?_, fun s hs i hi => ?_, (hu _ (by omega)).trans q7, fun l hl => ?_, fun l hl k hk => ?_⟩
      · have hi : i < wN ω := hi
        exact (hu _ (by omega)).trans (q2 i hi)
      · have hi : i < wN ω := hi
        exact (hu _ (by omega)).trans (q3 r hr i hi)
      · have hi : i < wN ω := hi
        have hs : s < pc (wP ω) := hs
        exact (hu _ (by omega)).trans (q5 s hs i hi)
      · have hi : i < wN ω := hi
        have hs : s < pc (wP ω) := hs
        show _ = nI (upn (plk (wP ω)) a m s / 2 ^ i % 2)
        unfold upn
        by_cases e : s = a
        · rw [if_pos e, e, hm i (by omega)]
          unfold upd
          by_cases e2 : i = b
          · rw [if_pos (by omega), if_pos e2]
          · rw [if_neg (by omega), if_neg e2]; exact q6 a hlt i hi
        · rw [if_neg e]; exact (hu _ (by omega)).trans (q6 s hs i hi)
      · exact (hu _ (by omega)).trans (q8 l hl)
      · exact (hu _ (by omega)).trans (q9 l hl k hk)) (pgs_hi (rcd_ok k).2.1 w1.2.2.1.2 (fun x hx => hu x (by omega)))
    exact fin _ _ _ _ tx (by rw [hv]; exact hO) w5 (frm_tr fr1 fr5 (by omega) (by omega))
  by_cases x0 : x = 0
  · rw [if_pos x0] at hO
    refine And.intro (fun _ => ?_) (fun z => absurd x0 z)
    refine xal w1.2.1 (nI_add 107 (7 * a + b)) (show 107 + (7 * a + b) < 1620 by omega) (by decide) ?_
    exact fin2 _ 0 (lk_off _ hk7 b (by omega)) hO
  · rw [if_neg x0] at hO
    refine And.intro (fun z => absurd z x0) (fun _ => ?_)
    refine xal w1.2.1 (nI_add 107 (7 * a + b)) (show 107 + (7 * a + b) < 1620 by omega) (by decide) ?_
    exact fin2 _ 1 (lk_on _ hk7 b (by omega)) hO
theorem sp_Mo_word {h : xHp} {B : Nat} {ω : Wv} {s i : Int32} (w : isM h B ω) (k : wok ω) : SpecR g_Mo_word [.ref B, .int s, .int i] h (pM h B (stWord ω s i)) := by
  obtain ⟨F, tx, w⟩ := w
  obtain ⟨fs, hrc⟩ := bM_rc w.b
  refine SpecR.of (by decide +kernel) (Nat.le_of_ble_eq_true rfl) (fun c hc => by cases hc; exact ⟨_, _, _, rfl, hrc⟩) (fun v h' z => ⟨⟨_, z.1⟩, z.2.2.1, z.2.2.2.1⟩) (fun Q hQ => ?_)
  generalize hO : stWord ω s i = o at hQ
  unfold stWord at hO
  have bad : ∀ c, (c, ω) = o → Q (some (.int c)) h := fun c e => by subst e; exact hQ _ _ ⟨rfl, ⟨F, tx, w⟩, frm_rf⟩
  have fin : ∀ (v : Int32) (ω' : Wv) (h' : xHp) (F' tx' : Nat → Int32), (v, ω') = o → isMF h' B ω' F' tx' → frm h h' B (B + 14) → Q (some (.int v)) h' := fun v ω' h' F' tx' e w' f => by subst e; exact hQ _ _ ⟨rfl, ⟨F', tx', w'⟩, f⟩
  have hn1 : 2 ≤ wN ω := k.1.1
  have hn : wN ω ≤ 7 := k.1.2.1
  have hS : ∀ i, i < wN ω → sS ω.1 i < 4 := k.1.2.2.1
  have hG : ∀ r, r < 6 → PM (wN ω) (wG ω r) := k.1.2.2.2.1
  have hP : pok (wN ω) (wP ω) := k.1.2.2.2.2
  refine xgoal [] 100 ok_Mo_word ?_
  have hc8 := hP.1
  have p0 := pg0.mp w.2.2.1.1
  refine xci (sp_Mo_isStanza (p := pc (wP ω)) s w.b p0.2.2.2.1 hc8) ?_
  refine gdX (fun z => ?_) (fun a ha e hlt => ?_)
  · rw [gdN z] at hO; exact bad _ hO
  subst e
  rw [gdS ha] at hO
  refine xci (sp_Mo_isLine i w.b hn) ?_
  refine gdX (fun z => ?_) (fun b hb e hbn => ?_)
  · rw [gdN z] at hO; exact bad _ hO
  subst e
  rw [gdS hb] at hO
  obtain ⟨l1, m1, s1, o1⟩ := w.1
  refine xgf o1 rfl ?_
  refine xci (sp_Mo_placeOf (s := a) (i := b) w.b) ?_
  refine xal w.2.1 (nI_add 51 (7 * a + b)) (show 51 + (7 * a + b) < 1620 by omega) (by decide) ?_
  have hv : F (51 + (7 * a + b)) = nI (pst (wP ω) a b) := by rw [← Nat.add_assoc]; exact p0.2.2.2.2.1 a hlt b hbn
  exact fin _ _ _ _ tx (by rw [hv]; exact hO) w frm_rf
