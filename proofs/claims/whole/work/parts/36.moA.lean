/-! THE REFERENCE'S CALLS: words, permutations -/
theorem xrec {h : xHp} {B : Nat} {ω : Wv} {F tx : Nat → Int32} {K : xHp → Prop} (w : isMF h B ω F tx) (k : wok ω) (p : ∀ h' F', isMF h' B (rcd ω) F' tx → (∀ x, x < 180 → F' x = F x) → frm h h' B (B + 14) → K h') : ∃ P : Option Value → xHp → Prop, SpecR g_Mo_records [.ref B] h P ∧ ∀ h', P none h' → K h' :=
  by obtain ⟨⟨lines, mw, spot, o⟩, -⟩ := id w; exact ⟨_, sp_Mo_recordsO o w k, fun h' z => by obtain ⟨-, ⟨F', z1, z2⟩, z3, -⟩ := z; exact p h' F' z1 z2 (frm_wd z3 (by omega) (by omega))⟩
theorem pg_put {F F' : Nat → Int32} {r : Nat} {f : Nat → Nat} {σ : Sv} (hk : sok σ) (hr : r < 6) (p : pg F 0 σ) (h1 : ∀ i, i < sN σ → F' (8 + 7 * r + i) = nI (f i)) (h2 : ∀ x, (x < 8 + 7 * r ∨ 8 + 7 * r + sN σ ≤ x) → F' x = F x) : pg F' 0 (setR σ r f) := by
  obtain ⟨p1, p2, p3, p4, p5, p6, p7, p8, p9⟩ := p
  have hn := hk.2.1
  refine ⟨(h2 _ (by omega)).trans p1, fun i hi => ?_, fun q hq i hi => ?_, (h2 _ (by omega)).trans p4, fun s hs i hi => (h2 _ (by omega)).trans (p5 s hs i hi), fun s hs i hi => (h2 _ (by omega)).trans (p6 s hs i hi), (h2 _ (by omega)).trans p7, fun l hl => (h2 _ (by omega)).trans (p8 l hl), fun l hl k hk => (h2 _ (by omega)).trans (p9 l hl k hk)⟩
  · have hi : i < sN σ := hi
    exact (h2 _ (by omega)).trans (p2 i hi)
  · have hi : i < sN σ := hi
    show F' (0 + 8 + 7 * q + i) = nI ((if q = r then f else sR σ q) i)
    by_cases e : q = r
    · rw [if_pos e, e, Nat.zero_add]; exact h1 i hi
    · rw [if_neg e]; exact (h2 _ (by omega)).trans (p3 q hq i hi)
theorem pgs_hi {F F' : Nat → Int32} {l : List Sv} (hk : ∀ τ, τ ∈ l → sok τ) (p : pgs F l) (h : ∀ x, 180 ≤ x → F' x = F x) : pgs F' l := pgs_mv hk h p
theorem xputs {h : xHp} {B c r : Nat} {f : Nat → Nat} {ω : Wv} {F tx : Nat → Int32} {K : xHp → Prop} (w : isMF h B ω F tx) (k : wok ω) (hr : r < 6) (hc : isRw h c (wN ω) f) (hd : B + 2 ≤ c) (p : ∀ h' F', isMF h' B (setR ω.1 r f, ω.2) F' tx → frm h h' (B + 1) (B + 2) → K h') : ∃ P : Option Value → xHp → Prop, SpecR g_Mo_puts [.ref B, .ref c, .int (nI r)] h P ∧ ∀ h', P none h' → K h' := by
  have hn : wN ω ≤ 7 := k.1.2.1
  refine ⟨_, sp_Mo_puts w.b hn hr hc hd, fun h' z => ?_⟩
  obtain ⟨-, ⟨F', z1, z2, z3⟩, z4⟩ := z
  exact p h' F' (w.pgw z4 z1 (pg_put k.1 hr w.2.2.1.1 z2 z3) (pgs_hi k.2.1 w.2.2.1.2 (fun x hx => z3 x (by omega)))) z4
theorem xtakes {h : xHp} {B c r : Nat} {ω : Wv} {F tx : Nat → Int32} {K : xHp → Prop} (w : isMF h B ω F tx) (hn : wN ω ≤ 7) (hr : r < 6) (h1 : 3 ≤ c) (h2 : c ≤ 5) (p : ∀ h', isMF h' B ω F tx → isRw h' (B + c) (wN ω) (wG ω r) → frm h h' (B + c) (B + c + 1) → K h') : ∃ P : Option Value → xHp → Prop, SpecR g_Mo_takes [.ref B, .int (nI r), .ref (B + c)] h P ∧ ∀ h', P none h' → K h' := by
  have e : scN c = 7 := by
    have : c = 3 ∨ c = 4 ∨ c = 5 := by omega
    rcases this with e | e | e <;> rw [e] <;> rfl
  refine ⟨_, sp_Mo_takes w.b hn hr (w.rg hr) (w.rw_ h1 h2) (by omega), fun h' z => ?_⟩
  obtain ⟨-, z1, z2⟩ := z
  exact p h' (w.sc z2 h1 (by rw [e]; exact z1.sh)) z1 z2
theorem xunr {h : xHp} {B c x : Nat} {ω : Wv} {F tx : Nat → Int32} {K : xHp → Prop} (w : isMF h B ω F tx) (k : wok ω) (hx : x < 2147483648) (h1 : 3 ≤ c) (h2 : c ≤ 5) (p : ∀ h', isMF h' B ω F tx → isRw h' (B + c) (wN ω) (unr (wN ω) x) → frm h h' (B + c) (B + c + 1) → K h') : ∃ P : Option Value → xHp → Prop, SpecR g_Mo_unranks [.ref B, .int (nI x), .ref (B + c)] h P ∧ ∀ h', P none h' → K h' := by
  have hn1 : 2 ≤ wN ω := k.1.1
  have hn : wN ω ≤ 7 := k.1.2.1
  have e : scN c = 7 := by
    have : c = 3 ∨ c = 4 ∨ c = 5 := by omega
    rcases this with e | e | e <;> rw [e] <;> rfl
  refine ⟨_, sp_Mo_unranks w.b (by omega) hn hx (w.rw_ h1 h2) (by omega), fun h' z => ?_⟩
  obtain ⟨-, z1, z2⟩ := z
  exact p h' (w.sc z2 h1 (by rw [e]; exact z1.sh)) z1 z2
theorem PM8 {n : Nat} {f : Nat → Nat} (hn : n ≤ 7) (hf : PM n f) : ∀ i, i < n → f i < 8 := fun i hi => by have := hf.1 i hi; omega
theorem sp_Mo_setWords {h : xHp} {B : Nat} {ω : Wv} {x : Int32} (w : isM h B ω) (k : wok ω) : SpecR g_Mo_setWords [.ref B, .int x] h (pM h B (stSetWords ω x)) := by
  obtain ⟨F, tx, w⟩ := w
  obtain ⟨fs, hrc⟩ := bM_rc w.b
  refine SpecR.of (by decide +kernel) (Nat.le_of_ble_eq_true rfl) (fun c hc => by cases hc; exact ⟨_, _, _, rfl, hrc⟩) (fun v h' z => ⟨⟨_, z.1⟩, z.2.2.1, z.2.2.2.1⟩) (fun Q hQ => ?_)
  generalize hO : stSetWords ω x = o at hQ
  unfold stSetWords at hO
  have bad : ∀ c, (c, ω) = o → Q (some (.int c)) h := fun c e => by subst e; exact hQ _ _ ⟨rfl, ⟨F, tx, w⟩, frm_rf⟩
  have fin : ∀ (v : Int32) (ω' : Wv) (h' : xHp) (F' tx' : Nat → Int32), (v, ω') = o → isMF h' B ω' F' tx' → frm h h' B (B + 14) → Q (some (.int v)) h' := fun v ω' h' F' tx' e w' f => by subst e; exact hQ _ _ ⟨rfl, ⟨F', tx', w'⟩, f⟩
  have hn1 : 2 ≤ wN ω := k.1.1
  have hn : wN ω ≤ 7 := k.1.2.1
  have hS : ∀ i, i < wN ω → sS ω.1 i < 4 := k.1.2.2.1
  have hG : ∀ r, r < 6 → PM (wN ω) (wG ω r) := k.1.2.2.2.1
  have hP : pok (wN ω) (wP ω) := k.1.2.2.2.2
  refine xgoal [] 100 ok_Mo_setWords ?_
  refine xci (sp_Mo_in x (nI 2) (nI 7) h) ?_
  have hix : (nI 2 ≤ x ∧ x ≤ nI 7) ↔ ∃ m, ix 8 x = some m ∧ 2 ≤ m := by
    rw [Int32.le_iff_toInt_le, Int32.le_iff_toInt_le, nI_toInt (by omega), nI_toInt (by omega)]
    unfold ix
    constructor
    · intro z; exact ⟨_, if_pos (by omega), by omega⟩
    · rintro ⟨m, hm, h2⟩
      split at hm
      · cases hm; omega
      · cases hm
  by_cases c : nI 2 ≤ x ∧ x ≤ nI 7
  · obtain ⟨m, hm, h2⟩ := hix.mp c
    obtain ⟨e, hlt⟩ := ix_some hm
    rw [gdS hm, if_neg (by omega)] at hO
    refine pk_eq 1 0 (fun z => absurd z (by omega)) (fun _ => ?_) (by rw [if_pos c]) rfl
    subst e
    refine xrec w k (fun h1 F1 w1 hF1 fr1 => ?_)
    refine xci (sp_Mo_size w1.b) ?_
    obtain ⟨l1, m1, s1, o1⟩ := w1.1
    refine xrv (sp_Mo_resets (m := m) ⟨_, _, _, _, _, o1⟩ w1.2.1) ?_
    rintro h2 ⟨-, ⟨F2, k2, q1, q2, q3, q4⟩, fr2⟩
    refine xrv (sp_Mo_empties ⟨_, _, _, _, _, xat_fr o1 fr2 (by omega)⟩ k2) ?_
    rintro h3 ⟨-, ⟨F3, k3, q5, q6⟩, fr3⟩
    have fr23 := frm_tr fr2 fr3 (Nat.le_refl _) (Nat.le_refl _)
    have w3 := w1.pgw (σ := st0 m) fr23 k3 (by
      refine ⟨(q6 0 (by omega)).trans q1, fun i hi => ?_, fun r hr i hi => ?_, ?_, fun s hs => absurd hs (Nat.not_lt_zero s), fun s hs => absurd hs (Nat.not_lt_zero s), ?_, fun l hl => absurd hl (Nat.not_lt_zero l), fun l hl => absurd hl (Nat.not_lt_zero l)⟩
      · have hi : i < m := hi
        exact (q6 _ (by omega)).trans (by rw [Nat.zero_add]; exact q2 i (by omega))
      · have hi : i < m := hi
        have := q3 (7 * r + i) (by omega)
        rw [show (7 * r + i) % 7 = i by omega, ← Nat.add_assoc] at this
        exact (q6 _ (by omega)).trans (by rw [Nat.zero_add]; exact this)
      · exact q5 _ (by omega) (by omega)
      · exact q5 _ (by omega) (by omega)) (pgs_hi (rcd_ok k).2.1 w1.2.2.1.2 (fun x hx => by rw [q6 x (by omega), q4 x (by omega)]))
    exact fin _ _ h3 F3 tx hO w3 (frm_tr fr1 fr23 (by omega) (by omega))
  · refine pk_eq 0 0 (fun _ => ?_) (fun z => absurd rfl z) (by rw [if_neg c]) rfl
    cases hm : ix 8 x with
    | none => rw [gdN hm] at hO; exact bad _ hO
    | some m =>
      have : ¬ 2 ≤ m := fun z => c (hix.mpr ⟨m, hm, z⟩)
      rw [gdS hm, if_pos (by omega)] at hO; exact bad _ hO
theorem sp_Mo_setSound {h : xHp} {B : Nat} {ω : Wv} {a v : Int32} (w : isM h B ω) (k : wok ω) : SpecR g_Mo_setSound [.ref B, .int a, .int v] h (pM h B (stSetSound ω a v)) := by
  obtain ⟨F, tx, w⟩ := w
  obtain ⟨fs, hrc⟩ := bM_rc w.b
  refine SpecR.of (by decide +kernel) (Nat.le_of_ble_eq_true rfl) (fun c hc => by cases hc; exact ⟨_, _, _, rfl, hrc⟩) (fun v h' z => ⟨⟨_, z.1⟩, z.2.2.1, z.2.2.2.1⟩) (fun Q hQ => ?_)
  generalize hO : stSetSound ω a v = o at hQ
  unfold stSetSound at hO
  have bad : ∀ c, (c, ω) = o → Q (some (.int c)) h := fun c e => by subst e; exact hQ _ _ ⟨rfl, ⟨F, tx, w⟩, frm_rf⟩
  have fin : ∀ (v : Int32) (ω' : Wv) (h' : xHp) (F' tx' : Nat → Int32), (v, ω') = o → isMF h' B ω' F' tx' → frm h h' B (B + 14) → Q (some (.int v)) h' := fun v ω' h' F' tx' e w' f => by subst e; exact hQ _ _ ⟨rfl, ⟨F', tx', w'⟩, f⟩
  have hn1 : 2 ≤ wN ω := k.1.1
  have hn : wN ω ≤ 7 := k.1.2.1
  have hS : ∀ i, i < wN ω → sS ω.1 i < 4 := k.1.2.2.1
  have hG : ∀ r, r < 6 → PM (wN ω) (wG ω r) := k.1.2.2.2.1
  have hP : pok (wN ω) (wP ω) := k.1.2.2.2.2
  refine xgoal [] 100 ok_Mo_setSound ?_
  refine xci (sp_Mo_isLine a w.b hn) ?_
  refine gdX (fun z => ?_) (fun i hi e hlt => ?_)
  · rw [gdN z] at hO; exact bad _ hO
  subst e
  rw [gdS hi] at hO
  have sp := sp_Mo_in v (nI 0) (nI 4 - nI 1) h
  rw [in_ib (by omega)] at sp
  refine xci sp ?_
  refine gdX (fun z => ?_) (fun x hx e hx4 => ?_)
  · rw [gdN z] at hO; exact bad _ hO
  subst e
  rw [gdS hx] at hO
  refine xrec w k (fun h1 F1 w1 hF1 fr1 => ?_)
  obtain ⟨l1, m1, s1, o1⟩ := w1.1
  refine xgf o1 rfl ?_
  refine xal w1.2.1 (nI_add 1 i) (show 1 + i < 1620 by omega) (by decide) ?_
  refine xgf o1 rfl ?_
  refine xal w1.2.1 (nI_add 1 i) (show 1 + i < 1620 by omega) (by decide) ?_
  have fr2 : frm h1 (xset h1 (B + 1) (xia 1620 (upd F1 (1 + i) (nI x)))) (B + 1) (B + 2) := frm_set frm_rf (by omega) (by omega)
  obtain ⟨p1, p2, p3, p4, p5, p6, p7, p8, p9⟩ := w1.2.2.1.1
  have hv : F1 (1 + i) = nI (sS ω.1 i) := by have := p2 i hlt; rw [Nat.zero_add] at this; exact this
  have hx2 : ∀ y, y ≠ 1 + i → upd F1 (1 + i) (nI x) y = F1 y := fun y hy => by unfold upd; rw [if_neg hy]
  have w2 := w1.pgw (σ := (wN ω, upn (sS ω.1) i x, wG ω, wP ω)) fr2 (xat_sf w1.2.1.1) (by
    refine ⟨(hx2 0 (by omega)).trans p1, fun j hj => ?_, fun r hr j hj => (hx2 _ (by omega)).trans (p3 r hr j hj), (hx2 _ (by omega)).trans p4, fun s hs j hj => (hx2 _ (by omega)).trans (p5 s hs j hj), fun s hs j hj => (hx2 _ (by omega)).trans (p6 s hs j hj), (hx2 _ (by omega)).trans p7, fun l hl => (hx2 _ (by omega)).trans (p8 l hl), fun l hl j hj => (hx2 _ (by omega)).trans (p9 l hl j hj)⟩
    show upd F1 (1 + i) (nI x) (0 + 1 + j) = nI (upn (sS ω.1) i x j)
    unfold upn
    by_cases e : j = i
    · rw [if_pos e, e, Nat.zero_add]; unfold upd; rw [if_pos rfl]
    · rw [if_neg e]; exact (hx2 _ (by omega)).trans (p2 j hj)) (pgs_hi (rcd_ok k).2.1 w1.2.2.1.2 (fun y hy => hx2 y (by omega)))
  have := fin _ _ _ _ tx hO w2 (frm_tr fr1 fr2 (by omega) (by omega))
  rw [← hv] at this
  exact this
theorem sp_Mo_make {h : xHp} {B : Nat} {ω : Wv} {r kind a : Int32} (w : isM h B ω) (k : wok ω) : SpecR g_Mo_make [.ref B, .int r, .int kind, .int a] h (pM h B (stMake ω r kind a)) := by
  obtain ⟨F, tx, w⟩ := w
  obtain ⟨fs, hrc⟩ := bM_rc w.b
  refine SpecR.of (by decide +kernel) (Nat.le_of_ble_eq_true rfl) (fun c hc => by cases hc; exact ⟨_, _, _, rfl, hrc⟩) (fun v h' z => ⟨⟨_, z.1⟩, z.2.2.1, z.2.2.2.1⟩) (fun Q hQ => ?_)
  generalize hO : stMake ω r kind a = o at hQ
  unfold stMake at hO
  have bad : ∀ c, (c, ω) = o → Q (some (.int c)) h := fun c e => by subst e; exact hQ _ _ ⟨rfl, ⟨F, tx, w⟩, frm_rf⟩
  have fin : ∀ (v : Int32) (ω' : Wv) (h' : xHp) (F' tx' : Nat → Int32), (v, ω') = o → isMF h' B ω' F' tx' → frm h h' B (B + 14) → Q (some (.int v)) h' := fun v ω' h' F' tx' e w' f => by subst e; exact hQ _ _ ⟨rfl, ⟨F', tx', w'⟩, f⟩
  have hn1 : 2 ≤ wN ω := k.1.1
  have hn : wN ω ≤ 7 := k.1.2.1
  have hS : ∀ i, i < wN ω → sS ω.1 i < 4 := k.1.2.2.1
  have hG : ∀ r, r < 6 → PM (wN ω) (wG ω r) := k.1.2.2.2.1
  have hP : pok (wN ω) (wP ω) := k.1.2.2.2.2
  refine xgoal [(47, [0, 1, 2, 3, 4, 5])] 100 ok_Mo_make ?_
  refine xci (sp_Mo_isRegister r h) ?_
  refine gdX (fun z => ?_) (fun i hi e hlt => ?_)
  · rw [gdN z] at hO; exact bad _ hO
  subst e
  rw [gdS hi] at hO
  have sp := sp_Mo_in kind (nI 0) (nI 6 - nI 1) h
  rw [in_ib (by omega)] at sp
  refine xci sp ?_
  refine gdX (fun z => ?_) (fun x hx e hx6 => ?_)
  · rw [gdN z] at hO; exact bad _ hO
  subst e
  rw [gdS hx] at hO
  refine xci (sp_Mo_isLine a w.b hn) ?_
  refine gdX (fun z => ?_) (fun y hy e hyn => ?_)
  · rw [gdN z] at hO; exact bad _ hO
  subst e
  rw [gdS hy] at hO
  have pm := kd_PM hn hyn hx6
  refine xci (sp_Mo_size w.b) ?_
  refine xrec w k (fun h1 F1 w1 hF1 fr1 => ?_)
  obtain ⟨l1, m1, s1, o1⟩ := w1.1
  refine xgf o1 rfl ?_
  refine xrv (sp_Mo_identity w1.b (w1.rw_ (c := 3) (by omega) (by omega))) ?_
  rintro h2 ⟨-, ⟨u, u1, u2⟩, fr2⟩
  refine up_loop (P := fun j => ∀ (k2 : xHp) (u : Nat → Int32), frm h1 k2 (B + 3) (B + 3 + 1) → xat k2 (B + 3) (xia 7 u) → (∀ t, t < j → u t = nI (kd x y (wN ω) t)) → (∀ t, j ≤ t → t < 7 → u t = nI t) → xAt (h.1, h.2.1) g_Mo_make Q 47 [(0, .ref B), (1, .int (nI i)), (2, .int (nI x)), (3, .int (nI y)), (4, .int (nI (wN ω))), (5, .int (nI j))] [] k2) (wN ω) ?_ (fun j hj ih => ?_) 0 (Nat.zero_le _) h2 u fr2 u1 (fun t ht => absurd ht (Nat.not_lt_zero t)) (fun t _ ht => u2 t ht)
  · intro k2 u fr2 u1 hu _
    have w2 := w1.sc fr2 (by omega) ⟨u, u1⟩
    obtain ⟨l2, m2, s2, o2⟩ := w2.1
    refine xgoal [(47, [0, 1, 2, 3, 4, 5])] 100 ok_Mo_make ?_
    refine pk_le (wN ω) (wN ω) (fun _ => ?_) (fun z => absurd z (by omega))
    refine xgf o2 rfl ?_
    refine xputs w2 (rcd_ok k) hlt (f := kd x y (wN ω)) ⟨u, u1, hu⟩ (by omega) (fun h3 F3 w3 fr3 => ?_)
    obtain ⟨l3, m3, s3, o3⟩ := w3.1
    refine xgf o3 rfl ?_
    have r3 : isRw h3 (B + 3) (wN ω) (kd x y (wN ω)) := isRw.fr ⟨u, u1, hu⟩ fr3 (by omega)
    refine xci (sp_Mo_rank w3.b hn r3 (PM8 hn pm)) ?_
    exact fin _ _ h3 F3 tx hO w3 (frm_tr (frm_tr fr1 fr2 (by omega) (by omega)) fr3 (by omega) (by omega))
  · intro k2 u fr2 u1 hu hu7
    have w2 := w1.sc fr2 (by omega) ⟨u, u1⟩
    obtain ⟨l2, m2, s2, o2⟩ := w2.1
    have step : ∀ v : Int32, v = nI (kd x y (wN ω) j) → xAt (h.1, h.2.1) g_Mo_make Q 47 [(0, .ref B), (1, .int (nI i)), (2, .int (nI x)), (3, .int (nI y)), (4, .int (nI (wN ω))), (5, .int (nI j + 1))] [] (xset k2 (B + 3) (xia 7 (upd u j v))) := fun v hv => by
      have := ih (xset k2 (B + 3) (xia 7 (upd u j v))) _ (frm_set fr2 (by omega) (by omega)) (xat_sf u1.1) (fun t ht => by
        unfold upd
        by_cases e : t = j
        · rw [if_pos e, e]; exact hv
        · rw [if_neg e]; exact hu t (by omega)) (fun t h1 h2 => by unfold upd; rw [if_neg (by omega)]; exact hu7 t (by omega) h2)
      rw [← nI_1 j] at this
      exact this
    refine xgoal [(47, [0, 1, 2, 3, 4, 5])] 100 ok_Mo_make ?_
    refine pk_le (wN ω) j (fun z => absurd z (by omega)) (fun _ => ?_)
    refine pk_eq x 1 (fun c => ?_) (fun c1 => ?_)
    · subst c
      refine xgf o2 rfl ?_
      refine And.intro n_ne2 ?_
      refine pk_eq (j % 2) 0 (fun c => ?_) (fun c => ?_) (n_mod2 (by omega)) rfl
      · refine And.intro n_ne2 ?_
        refine xal u1 rfl (show j < 7 by omega) (by decide) ?_
        exact step _ (by show _ = nI (if j % 2 = 0 then wN ω - 1 - j / 2 else j / 2); rw [if_pos c, n_div2 (by omega), pk_sub (by omega), pk_sub (by omega)])
      · refine And.intro n_ne2 ?_
        refine xal u1 rfl (show j < 7 by omega) (by decide) ?_
        exact step _ (by show _ = nI (if j % 2 = 0 then wN ω - 1 - j / 2 else j / 2); rw [if_neg c, n_div2 (by omega)])
    refine pk_eq x 2 (fun c => ?_) (fun c2 => ?_)
    · subst c
      refine xgf o2 rfl ?_
      refine xal u1 rfl (show j < 7 by omega) (by decide) ?_
      exact step _ (by show _ = nI (wN ω - 1 - j); rw [pk_sub (by omega), pk_sub (by omega)])
    refine pk_eq x 3 (fun c => ?_) (fun c3 => ?_)
    · subst c
      refine xgf o2 rfl ?_
      refine And.intro (nI_ne0 (by omega) (by omega)) ?_
      refine xal u1 rfl (show j < 7 by omega) (by decide) ?_
      refine step _ ?_
      show _ = nI (if j + y < wN ω then j + y else j + y - wN ω)
      rw [nI_add, pk_rem (by omega) (by omega) (by omega)]
      by_cases c : j + y < wN ω
      · rw [if_pos c, Nat.mod_eq_of_lt c]
      · rw [if_neg c, Nat.mod_eq_sub_mod (by omega), Nat.mod_eq_of_lt (by omega)]
    refine pk_eq x 4 (fun c => ?_) (fun c4 => ?_)
    · subst c
      refine xgf o2 rfl ?_
      refine pk_eq j 0 (fun c => ?_) (fun c => ?_)
      · refine xal u1 rfl (show j < 7 by omega) (by decide) ?_
        exact step _ (by show _ = nI (if j = 0 then y else if j = y then 0 else j); rw [if_pos c])
      · refine pk_eq j y (fun d => ?_) (fun d => ?_)
        · refine xal u1 rfl (show j < 7 by omega) (by decide) ?_
          exact step _ (by show _ = nI (if j = 0 then y else if j = y then 0 else j); rw [if_neg c, if_pos d])
        · refine xal u1 rfl (show j < 7 by omega) (by decide) ?_
          exact step _ (by show _ = nI (if j = 0 then y else if j = y then 0 else j); rw [if_neg c, if_neg d])
    refine pk_eq x 5 (fun c => ?_) (fun c5 => ?_)
    · subst c
      have e1 : (nI (wN ω) + nI 1) / nI 2 = nI ((wN ω + 1) / 2) := by rw [nI_add, n_div2 (by omega)]
      refine xgf o2 rfl ?_
      refine And.intro n_ne2 ?_
      refine pk_le ((wN ω + 1) / 2) j (fun c => ?_) (fun c => ?_) e1 rfl
      · refine And.intro n_ne2 ?_
        refine xal u1 rfl (show j < 7 by omega) (by decide) ?_
        refine step _ ?_
        show _ = nI (if j < (wN ω + 1) / 2 then 2 * j else 2 * (j - (wN ω + 1) / 2) + 1)
        rw [if_neg (by omega), e1, pk_sub c, n_mul, nI_add]
      · refine xal u1 rfl (show j < 7 by omega) (by decide) ?_
        refine step _ ?_
        show _ = nI (if j < (wN ω + 1) / 2 then 2 * j else 2 * (j - (wN ω + 1) / 2) + 1)
        rw [if_pos c, n_mul]
    · have : x = 0 := by omega
      subst this
      have := ih k2 u fr2 u1 (fun t ht => by
        by_cases e : t = j
        · rw [e]; exact hu7 j (Nat.le_refl _) (by omega)
        · exact hu t (by omega)) (fun t h1 h2 => hu7 t (by omega) h2)
      rw [← nI_1 j] at this
      exact this
theorem sp_Mo_product {h : xHp} {B : Nat} {ω : Wv} {a b c : Int32} (w : isM h B ω) (k : wok ω) : SpecR g_Mo_product [.ref B, .int a, .int b, .int c] h (pM h B (stProduct ω a b c)) := by
  obtain ⟨F, tx, w⟩ := w
  obtain ⟨fs, hrc⟩ := bM_rc w.b
  refine SpecR.of (by decide +kernel) (Nat.le_of_ble_eq_true rfl) (fun c hc => by cases hc; exact ⟨_, _, _, rfl, hrc⟩) (fun v h' z => ⟨⟨_, z.1⟩, z.2.2.1, z.2.2.2.1⟩) (fun Q hQ => ?_)
  generalize hO : stProduct ω a b c = o at hQ
  unfold stProduct at hO
  have bad : ∀ c, (c, ω) = o → Q (some (.int c)) h := fun c e => by subst e; exact hQ _ _ ⟨rfl, ⟨F, tx, w⟩, frm_rf⟩
  have fin : ∀ (v : Int32) (ω' : Wv) (h' : xHp) (F' tx' : Nat → Int32), (v, ω') = o → isMF h' B ω' F' tx' → frm h h' B (B + 14) → Q (some (.int v)) h' := fun v ω' h' F' tx' e w' f => by subst e; exact hQ _ _ ⟨rfl, ⟨F', tx', w'⟩, f⟩
  have hn1 : 2 ≤ wN ω := k.1.1
  have hn : wN ω ≤ 7 := k.1.2.1
  have hS : ∀ i, i < wN ω → sS ω.1 i < 4 := k.1.2.2.1
  have hG : ∀ r, r < 6 → PM (wN ω) (wG ω r) := k.1.2.2.2.1
  have hP : pok (wN ω) (wP ω) := k.1.2.2.2.2
  refine xgoal [] 100 ok_Mo_product ?_
  refine xci (sp_Mo_isRegister a h) ?_
  refine gdX (fun z => ?_) (fun i hi e hlt => ?_)
  · rw [gdN z] at hO; exact bad _ hO
  subst e
  rw [gdS hi] at hO
  refine xci (sp_Mo_isRegister b h) ?_
  refine gdX (fun z => ?_) (fun x hx e hx6 => ?_)
  · rw [gdN z] at hO; exact bad _ hO
  subst e
  rw [gdS hx] at hO
  refine xci (sp_Mo_isRegister c h) ?_
  refine gdX (fun z => ?_) (fun y hy e hy6 => ?_)
  · rw [gdN z] at hO; exact bad _ hO
  subst e
  rw [gdS hy] at hO
  refine xrec w k (fun h1 F1 w1 hF1 fr1 => ?_)
  obtain ⟨l1, m1, s1, o1⟩ := w1.1
  refine xgf o1 rfl ?_
  refine xtakes (c := 3) w1 hn hlt (by omega) (by omega) (fun h2 w2 r2 fr2 => ?_)
  obtain ⟨l2, m2, s2, o2⟩ := w2.1
  refine xgf o2 rfl ?_
  refine xtakes (c := 4) w2 hn hx6 (by omega) (by omega) (fun h3 w3 r3 fr3 => ?_)
  obtain ⟨l3, m3, s3, o3⟩ := w3.1
  refine xgf o3 rfl ?_
  refine xgf o3 rfl ?_
  refine xgf o3 rfl ?_
  refine xrv (sp_Mo_multiplies w3.b hn (r2.fr fr3 (by omega)) r3 (hG x hx6).1 (w3.rw_ (c := 5) (by omega) (by omega)) (by omega) (by omega) (by omega)) ?_
  rintro h4 ⟨-, r4, fr4⟩
  have w4 := w3.sc (c := 5) fr4 (by omega) r4.sh
  obtain ⟨l4, m4, s4, o4⟩ := w4.1
  refine xgf o4 rfl ?_
  refine xputs w4 (rcd_ok k) hy6 r4 (by omega) (fun h5 F5 w5 fr5 => ?_)
  obtain ⟨l5, m5, s5, o5⟩ := w5.1
  refine xgf o5 rfl ?_
  refine xci (sp_Mo_rank w5.b hn (r4.fr fr5 (by omega)) (PM8 hn (PM_comp (hG i hlt) (hG x hx6)))) ?_
  exact fin _ _ h5 F5 tx hO w5 (frm_tr (frm_tr (frm_tr (frm_tr fr1 fr2 (by omega) (by omega)) fr3 (by omega) (by omega)) fr4 (by omega) (by omega)) fr5 (by omega) (by omega))
theorem i32_rem {x : Int32} {o : Nat} (h1 : 1 ≤ o) (h2 : o < 1000) (hx : -1000000 ≤ x.toInt) (hx2 : x.toInt ≤ 1000000) : (x - x / nI o * nI o).toInt = x.toInt.tmod o := by
  have ho : (nI o).toInt = (o : Int) := nI_toInt (by omega)
  have hd : (x / nI o).toInt = x.toInt.tdiv o := by
    rw [Int32.toInt_div, ho]
    have q1 : (x.toInt.tdiv o).natAbs ≤ x.toInt.natAbs := Int.natAbs_tdiv_le_natAbs _ _
    unfold Int.bmod
    dsimp only
    split <;> omega
  have hm : x.toInt.tdiv o * o = x.toInt - x.toInt.tmod o := by
    have := Int.tmod_add_mul_tdiv x.toInt o
    rw [Int.mul_comm] at this
    omega
  have hb : (x.toInt.tmod o).natAbs ≤ x.toInt.natAbs := by
    rw [Int.natAbs_tmod]
    exact Nat.mod_le _ _
  rw [Int32.toInt_sub, Int32.toInt_mul, hd, ho, hm]
  generalize x.toInt.tmod o = t at *
  generalize x.toInt = y at *
  have e : (y - t).bmod (2 ^ 32) = y - t := by
    unfold Int.bmod
    dsimp only
    split <;> omega
  rw [e]
  unfold Int.bmod
  dsimp only
  split <;> omega
theorem sp_Mo_power {h : xHp} {B : Nat} {ω : Wv} {a b c : Int32} (w : isM h B ω) (k : wok ω) : SpecR g_Mo_power [.ref B, .int a, .int b, .int c] h (pM h B (stPower ω a b c)) := by
  obtain ⟨F, tx, w⟩ := w
  obtain ⟨fs, hrc⟩ := bM_rc w.b
  refine SpecR.of (by decide +kernel) (Nat.le_of_ble_eq_true rfl) (fun c hc => by cases hc; exact ⟨_, _, _, rfl, hrc⟩) (fun v h' z => ⟨⟨_, z.1⟩, z.2.2.1, z.2.2.2.1⟩) (fun Q hQ => ?_)
  generalize hO : stPower ω a b c = o at hQ
  unfold stPower at hO
  have bad : ∀ c, (c, ω) = o → Q (some (.int c)) h := fun c e => by subst e; exact hQ _ _ ⟨rfl, ⟨F, tx, w⟩, frm_rf⟩
  have fin : ∀ (v : Int32) (ω' : Wv) (h' : xHp) (F' tx' : Nat → Int32), (v, ω') = o → isMF h' B ω' F' tx' → frm h h' B (B + 14) → Q (some (.int v)) h' := fun v ω' h' F' tx' e w' f => by subst e; exact hQ _ _ ⟨rfl, ⟨F', tx', w'⟩, f⟩
  have hn1 : 2 ≤ wN ω := k.1.1
  have hn : wN ω ≤ 7 := k.1.2.1
  have hS : ∀ i, i < wN ω → sS ω.1 i < 4 := k.1.2.2.1
  have hG : ∀ r, r < 6 → PM (wN ω) (wG ω r) := k.1.2.2.2.1
  have hP : pok (wN ω) (wP ω) := k.1.2.2.2.2
  refine xgoal [] 100 ok_Mo_power ?_
  refine xci (sp_Mo_isRegister a h) ?_
  refine gdX (fun z => ?_) (fun i hi e hlt => ?_)
  · rw [gdN z] at hO; exact bad _ hO
  subst e
  rw [gdS hi] at hO
  refine xci (sp_Mo_in b (-1000000) (nI 1000000) h) ?_
  by_cases cb : -1000000 ≤ b ∧ b ≤ nI 1000000
  · refine pk_eq 1 0 (fun z => absurd z (by omega)) (fun _ => ?_) (by rw [if_pos cb]) rfl
    rw [Int32.le_iff_toInt_le, Int32.le_iff_toInt_le, show (-1000000 : Int32).toInt = -1000000 by decide, nI_toInt (by omega)] at cb
    have cb2 : b.toInt ≤ 1000000 := cb.2
    rw [if_neg (by omega)] at hO
    refine xci (sp_Mo_isRegister c h) ?_
    refine gdX (fun z => ?_) (fun y hy e hy6 => ?_)
    · rw [gdN z] at hO; exact bad _ hO
    subst e
    rw [gdS hy] at hO
    refine xrec w k (fun h1 F1 w1 hF1 fr1 => ?_)
    obtain ⟨l1, m1, s1, o1⟩ := w1.1
    refine xgf o1 rfl ?_
    refine xtakes (c := 3) w1 hn hlt (by omega) (by omega) (fun h2 w2 r2 fr2 => ?_)
    obtain ⟨l2, m2, s2, o2⟩ := w2.1
    refine xgf o2 rfl ?_
    have r2 : isRw h2 (B + 3) (wN ω) (wG ω i) := r2
    refine xci (sp_Mo_orderOf (n := wN ω) (f := wG ω i) w2.b hn r2 (hG i hlt)) ?_
    obtain ⟨q1, q2⟩ := ord_le (wN ω) (wG ω i)
    refine xgf o2 rfl ?_
    refine And.intro (nI_ne0 (by omega) (by omega)) ?_
    refine And.intro (nI_ne0 (by omega) (by omega)) ?_
    have hpe := fun e he j hj => pwr_eq (i := j) hn (hG i hlt) hj b.toInt e he
    have e1 := i32_rem (x := b) q1 (by omega) cb.1 cb2
    have ha : (ord (sN (rcd ω).1) (wG ω i)) = ord (wN ω) (wG ω i) := rfl
    have hA : (b - b / nI (ord (wN ω) (wG ω i)) * nI (ord (wN ω) (wG ω i)) + nI (ord (wN ω) (wG ω i))).toInt = b.toInt.tmod (ord (wN ω) (wG ω i)) + ord (wN ω) (wG ω i) := by
      have hl : (b.toInt.tmod (ord (wN ω) (wG ω i))).natAbs ≤ b.toInt.natAbs := by
        rw [Int.natAbs_tmod]; exact Nat.mod_le _ _
      rw [Int32.toInt_add, e1, nI_toInt (by omega)]
      unfold Int.bmod
      dsimp only
      split <;> omega
    have hl2 : (b.toInt.tmod (ord (wN ω) (wG ω i))).natAbs < ord (wN ω) (wG ω i) := by
      rw [Int.natAbs_tmod]; exact Nat.mod_lt _ (by simp; omega)
    have e2 := i32_rem (x := b - b / nI (ord (wN ω) (wG ω i)) * nI (ord (wN ω) (wG ω i)) + nI (ord (wN ω) (wG ω i))) q1 (by omega) (by rw [hA]; omega) (by rw [hA]; omega)
    rw [hA] at e2
    have hnn : 0 ≤ (b.toInt.tmod (ord (wN ω) (wG ω i)) + ord (wN ω) (wG ω i)).tmod (ord (wN ω) (wG ω i)) := Int.tmod_nonneg _ (by omega)
    have hn3 : ((b.toInt.tmod (ord (wN ω) (wG ω i)) + ord (wN ω) (wG ω i)).tmod (ord (wN ω) (wG ω i))).natAbs < ord (wN ω) (wG ω i) := by
      rw [Int.natAbs_tmod]; exact Nat.mod_lt _ (by simp; omega)
    obtain ⟨e, he⟩ : ∃ e : Nat, (e : Int) = (b.toInt.tmod (ord (wN ω) (wG ω i)) + ord (wN ω) (wG ω i)).tmod (ord (wN ω) (wG ω i)) := ⟨_, Int.toNat_of_nonneg hnn⟩
    have hpe := hpe e he
    have en : b - b / nI (ord (wN ω) (wG ω i)) * nI (ord (wN ω) (wG ω i)) + nI (ord (wN ω) (wG ω i)) - (b - b / nI (ord (wN ω) (wG ω i)) * nI (ord (wN ω) (wG ω i)) + nI (ord (wN ω) (wG ω i))) / nI (ord (wN ω) (wG ω i)) * nI (ord (wN ω) (wG ω i)) = nI e := by
      apply Int32.toInt_inj.mp
      rw [e2, nI_toInt (by omega), he]
    refine xgf o2 rfl ?_
    have sp := sp_Mo_raises (k := e) w2.b hn (by omega) r2 (hG i hlt).1 (w2.rw_ (c := 4) (by omega) (by omega)) (by omega) (by omega)
    rw [← en] at sp
    refine xrv sp ?_
    rintro h4 ⟨-, r4, fr4⟩
    have r4 := r4.congr hpe
    have w4 := w2.sc (c := 4) fr4 (by omega) r4.sh
    obtain ⟨l4, m4, s4, o4⟩ := w4.1
    have pmp : PM (wN ω) (pwr (wN ω) (wG ω i) b.toInt) := by
      unfold pwr
      split
      · exact itr_PM (inv_PM (hG i hlt)) _
      · exact itr_PM (hG i hlt) _
    refine xgf o4 rfl ?_
    refine xputs w4 (rcd_ok k) hy6 r4 (by omega) (fun h5 F5 w5 fr5 => ?_)
    obtain ⟨l5, m5, s5, o5⟩ := w5.1
    refine xgf o5 rfl ?_
    refine xci (sp_Mo_rank w5.b hn (r4.fr fr5 (by omega)) (PM8 hn pmp)) ?_
    exact fin _ _ h5 F5 tx hO w5 (frm_tr (frm_tr (frm_tr fr1 fr2 (by omega) (by omega)) fr4 (by omega) (by omega)) fr5 (by omega) (by omega))
  · refine pk_eq 0 0 (fun _ => ?_) (fun z => absurd rfl z) (by rw [if_neg cb]) rfl
    rw [Int32.le_iff_toInt_le, Int32.le_iff_toInt_le, show (-1000000 : Int32).toInt = -1000000 by decide, nI_toInt (by omega)] at cb
    have cb : ¬ (-1000000 ≤ b.toInt ∧ b.toInt ≤ 1000000) := cb
    rw [if_pos (by omega)] at hO
    exact bad _ hO
theorem sp_Mo_unrank {h : xHp} {B : Nat} {ω : Wv} {r a : Int32} (w : isM h B ω) (k : wok ω) : SpecR g_Mo_unrank [.ref B, .int r, .int a] h (pM h B (stUnrank ω r a)) := by
  obtain ⟨F, tx, w⟩ := w
  obtain ⟨fs, hrc⟩ := bM_rc w.b
  refine SpecR.of (by decide +kernel) (Nat.le_of_ble_eq_true rfl) (fun c hc => by cases hc; exact ⟨_, _, _, rfl, hrc⟩) (fun v h' z => ⟨⟨_, z.1⟩, z.2.2.1, z.2.2.2.1⟩) (fun Q hQ => ?_)
  generalize hO : stUnrank ω r a = o at hQ
  unfold stUnrank at hO
  have bad : ∀ c, (c, ω) = o → Q (some (.int c)) h := fun c e => by subst e; exact hQ _ _ ⟨rfl, ⟨F, tx, w⟩, frm_rf⟩
  have fin : ∀ (v : Int32) (ω' : Wv) (h' : xHp) (F' tx' : Nat → Int32), (v, ω') = o → isMF h' B ω' F' tx' → frm h h' B (B + 14) → Q (some (.int v)) h' := fun v ω' h' F' tx' e w' f => by subst e; exact hQ _ _ ⟨rfl, ⟨F', tx', w'⟩, f⟩
  have hn1 : 2 ≤ wN ω := k.1.1
  have hn : wN ω ≤ 7 := k.1.2.1
  have hS : ∀ i, i < wN ω → sS ω.1 i < 4 := k.1.2.2.1
  have hG : ∀ r, r < 6 → PM (wN ω) (wG ω r) := k.1.2.2.2.1
  have hP : pok (wN ω) (wP ω) := k.1.2.2.2.2
  refine xgoal [] 100 ok_Mo_unrank ?_
  have h5 := fct_le hn
  refine xci (sp_Mo_isRegister r h) ?_
  refine gdX (fun z => ?_) (fun i hi e hlt => ?_)
  · rw [gdN z] at hO; exact bad _ hO
  subst e
  rw [gdS hi] at hO
  refine xci (sp_Mo_factorial w.b hn1 hn) ?_
  have sp := sp_Mo_in a (nI 0) (nI (fct (wN ω)) - nI 1) h
  rw [in_ib (by omega)] at sp
  refine xci sp ?_
  refine gdX (fun z => ?_) (fun x hx e hxf => ?_)
  · rw [gdN z] at hO; exact bad _ hO
  subst e
  rw [gdS hx] at hO
  refine xrec w k (fun h1 F1 w1 hF1 fr1 => ?_)
  obtain ⟨l1, m1, s1, o1⟩ := w1.1
  refine xgf o1 rfl ?_
  refine xunr (c := 3) w1 (rcd_ok k) (by omega) (by omega) (by omega) (fun h2 w2 r2 fr2 => ?_)
  obtain ⟨l2, m2, s2, o2⟩ := w2.1
  refine xgf o2 rfl ?_
  refine xputs w2 (rcd_ok k) hlt r2 (by omega) (fun h3 F3 w3 fr3 => ?_)
  obtain ⟨l3, m3, s3, o3⟩ := w3.1
  refine xgf o3 rfl ?_
  refine xci (sp_Mo_orderOf w3.b hn (r2.fr fr3 (by omega)) (unr_PM _ x)) ?_
  exact fin _ _ h3 F3 tx hO w3 (frm_tr (frm_tr fr1 fr2 (by omega) (by omega)) fr3 (by omega) (by omega))
theorem sp_Mo_root {h : xHp} {B : Nat} {ω : Wv} {a b c : Int32} (w : isM h B ω) (k : wok ω) : SpecR g_Mo_root [.ref B, .int a, .int b, .int c] h (pM h B (stRoot ω a b c)) := by
  obtain ⟨F, tx, w⟩ := w
  obtain ⟨fs, hrc⟩ := bM_rc w.b
  refine SpecR.of (by decide +kernel) (Nat.le_of_ble_eq_true rfl) (fun c hc => by cases hc; exact ⟨_, _, _, rfl, hrc⟩) (fun v h' z => ⟨⟨_, z.1⟩, z.2.2.1, z.2.2.2.1⟩) (fun Q hQ => ?_)
  generalize hO : stRoot ω a b c = o at hQ
  unfold stRoot at hO
  have bad : ∀ c, (c, ω) = o → Q (some (.int c)) h := fun c e => by subst e; exact hQ _ _ ⟨rfl, ⟨F, tx, w⟩, frm_rf⟩
  have fin : ∀ (v : Int32) (ω' : Wv) (h' : xHp) (F' tx' : Nat → Int32), (v, ω') = o → isMF h' B ω' F' tx' → frm h h' B (B + 14) → Q (some (.int v)) h' := fun v ω' h' F' tx' e w' f => by subst e; exact hQ _ _ ⟨rfl, ⟨F', tx', w'⟩, f⟩
  have hn1 : 2 ≤ wN ω := k.1.1
  have hn : wN ω ≤ 7 := k.1.2.1
  have hS : ∀ i, i < wN ω → sS ω.1 i < 4 := k.1.2.2.1
  have hG : ∀ r, r < 6 → PM (wN ω) (wG ω r) := k.1.2.2.2.1
  have hP : pok (wN ω) (wP ω) := k.1.2.2.2.2
  refine xgoal [(42, [0, 2, 3, 4])] 100 ok_Mo_root ?_
  have h5 := fct_le hn
  refine xci (sp_Mo_isRegister a h) ?_
  refine gdX (fun z => ?_) (fun i hi e hlt => ?_)
  · rw [gdN z] at hO; exact bad _ hO
  subst e
  rw [gdS hi] at hO
  refine xci (sp_Mo_in b (nI 1) (nI 12) h) ?_
  have hix : (nI 1 ≤ b ∧ b ≤ nI 12) ↔ ∃ m, ix 13 b = some m ∧ 1 ≤ m := by
    rw [Int32.le_iff_toInt_le, Int32.le_iff_toInt_le, nI_toInt (by omega), nI_toInt (by omega)]
    unfold ix
    constructor
    · intro z; exact ⟨_, if_pos (by omega), by omega⟩
    · rintro ⟨m, hm, h2⟩
      split at hm
      · cases hm; omega
      · cases hm
  by_cases cb : nI 1 ≤ b ∧ b ≤ nI 12
  · obtain ⟨x, hx, hx1⟩ := hix.mp cb
    obtain ⟨e, hx13⟩ := ix_some hx
    rw [gdS hx, if_neg (by omega)] at hO
    refine pk_eq 1 0 (fun z => absurd z (by omega)) (fun _ => ?_) (by rw [if_pos cb]) rfl
    subst e
    refine xci (sp_Mo_isRegister c h) ?_
    refine gdX (fun z => ?_) (fun y hy e hy6 => ?_)
    · rw [gdN z] at hO; exact bad _ hO
    subst e
    rw [gdS hy] at hO
    refine xrec w k (fun h1 F1 w1 hF1 fr1 => ?_)
    obtain ⟨l1, m1, s1, o1⟩ := w1.1
    refine xgf o1 rfl ?_
    refine xtakes (c := 3) w1 hn hlt (by omega) (by omega) (fun h2 w2 r2 fr2 => ?_)
    have fr2' := frm_tr fr1 fr2 (by omega) (by omega)
    refine up_loop (P := fun m => ∀ k2 : xHp, frm h k2 B (B + 14) → isMF k2 B (rcd ω) F1 tx → isRw k2 (B + 3) (wN ω) (wG ω i) → rt (wN ω) (wG ω i) x = sr (rtb (wN ω) (wG ω i) x) (fct (wN ω) - m) m → xAt (h.1, h.2.1) g_Mo_root Q 42 [(0, .ref B), (2, .int (nI x)), (3, .int (nI y)), (4, .int (nI m))] [] k2) (fct (wN ω)) ?_ (fun m hm ih => ?_) 0 (Nat.zero_le _) h2 fr2' w2 r2 rfl
    · intro k2 frk wk rk he
      rw [Nat.sub_self] at he
      have he : rt (wN ω) (wG ω i) x = fct (wN ω) := he
      rw [if_neg (by omega)] at hO
      refine xgoal [(42, [0, 2, 3, 4])] 100 ok_Mo_root ?_
      refine xci (sp_Mo_factorial wk.b hn1 hn) ?_
      exact pk_le (fct (wN ω)) (fct (wN ω)) (fun _ => fin _ _ k2 F1 tx hO wk frk) (fun z => absurd z (by omega))
    · intro k2 frk wk rk he
      rw [show fct (wN ω) - m = (fct (wN ω) - (m + 1)) + 1 by omega] at he
      unfold sr at he
      have pm := unr_PM (wN ω) m
      obtain ⟨lk, mk, sk, ok⟩ := wk.1
      refine xgoal [(42, [0, 2, 3, 4])] 100 ok_Mo_root ?_
      refine xci (sp_Mo_factorial wk.b hn1 hn) ?_
      refine pk_le (fct (wN ω)) m (fun z => absurd z (by omega)) (fun _ => ?_)
      refine xgf ok rfl ?_
      refine xunr (c := 4) wk (rcd_ok k) (by omega) (by omega) (by omega) (fun h3 w3 r3 fr3 => ?_)
      obtain ⟨l3, m3, s3, o3⟩ := w3.1
      refine xgf o3 rfl ?_
      refine xgf o3 rfl ?_
      refine xrv (sp_Mo_raises (k := x) w3.b hn (by omega) r3 pm.1 (w3.rw_ (c := 5) (by omega) (by omega)) (by omega) (by omega)) ?_
      rintro h4 ⟨-, r4, fr4⟩
      have w4 := w3.sc (c := 5) fr4 (by omega) r4.sh
      obtain ⟨l4, m4, s4, o4⟩ := w4.1
      have rk4 := (rk.fr fr3 (by omega)).fr fr4 (by omega)
      have frk4 := frm_tr (frm_tr frk fr3 (by omega) (by omega)) fr4 (by omega) (by omega)
      refine xgf o4 rfl ?_
      refine xgf o4 rfl ?_
      refine xci (sp_Mo_isSame w4.b hn r4 rk4 (PM8 hn (itr_PM pm x)) (PM8 hn (hG i hlt))) ?_
      by_cases cs : ∀ j, j < wN ω → itr (unr (wN ω) m) x j = wG ω i j
      · refine pk_eq 1 0 (fun z => absurd z (by omega)) (fun _ => ?_) (congrArg nI (if_pos cs)) rfl
        rw [if_pos (show rtb (wN ω) (wG ω i) x m = true from decide_eq_true cs)] at he
        rw [he, if_pos hm] at hO
        refine xgf o4 rfl ?_
        refine xputs w4 (rcd_ok k) hy6 (r3.fr fr4 (by omega)) (by omega) (fun h5 F5 w5 fr5 => ?_)
        have e9 : sto ω y (unr (wN ω) m) = (nI m, wS ω (setR ω.1 y (unr (wN ω) m))) := by unfold sto; rw [rank_unr hm]
        rw [e9] at hO
        exact fin _ _ h5 F5 tx hO w5 (frm_tr frk4 fr5 (by omega) (by omega))
      · refine pk_eq 0 0 (fun _ => ?_) (fun z => absurd rfl z) (congrArg nI (if_neg cs)) rfl
        rw [if_neg (show ¬ rtb (wN ω) (wG ω i) x m = true from fun z => cs (of_decide_eq_true z))] at he
        have ih := ih h4 frk4 w4 rk4 he
        rw [← nI_1 m] at ih
        exact ih
  · refine pk_eq 0 0 (fun _ => ?_) (fun z => absurd rfl z) (by rw [if_neg cb]) rfl
    cases hm : ix 13 b with
    | none => rw [gdN hm] at hO; exact bad _ hO
    | some m =>
      have : ¬ 1 ≤ m := fun z => cb (hix.mpr ⟨m, hm, z⟩)
      rw [gdS hm, if_pos (by omega)] at hO; exact bad _ hO
theorem sp_Mo_at {h : xHp} {B : Nat} {ω : Wv} {r a : Int32} (w : isM h B ω) (k : wok ω) : SpecR g_Mo_at [.ref B, .int r, .int a] h (pM h B (stAt ω r a)) := by
  obtain ⟨F, tx, w⟩ := w
  obtain ⟨fs, hrc⟩ := bM_rc w.b
  refine SpecR.of (by decide +kernel) (Nat.le_of_ble_eq_true rfl) (fun c hc => by cases hc; exact ⟨_, _, _, rfl, hrc⟩) (fun v h' z => ⟨⟨_, z.1⟩, z.2.2.1, z.2.2.2.1⟩) (fun Q hQ => ?_)
  generalize hO : stAt ω r a = o at hQ
  unfold stAt at hO
  have bad : ∀ c, (c, ω) = o → Q (some (.int c)) h := fun c e => by subst e; exact hQ _ _ ⟨rfl, ⟨F, tx, w⟩, frm_rf⟩
  have fin : ∀ (v : Int32) (ω' : Wv) (h' : xHp) (F' tx' : Nat → Int32), (v, ω') = o → isMF h' B ω' F' tx' → frm h h' B (B + 14) → Q (some (.int v)) h' := fun v ω' h' F' tx' e w' f => by subst e; exact hQ _ _ ⟨rfl, ⟨F', tx', w'⟩, f⟩
  have hn1 : 2 ≤ wN ω := k.1.1
  have hn : wN ω ≤ 7 := k.1.2.1
  have hS : ∀ i, i < wN ω → sS ω.1 i < 4 := k.1.2.2.1
  have hG : ∀ r, r < 6 → PM (wN ω) (wG ω r) := k.1.2.2.2.1
  have hP : pok (wN ω) (wP ω) := k.1.2.2.2.2
  refine xgoal [] 100 ok_Mo_at ?_
  refine xci (sp_Mo_isRegister r h) ?_
  refine gdX (fun z => ?_) (fun i hi e hlt => ?_)
  · rw [gdN z] at hO; exact bad _ hO
  subst e
  rw [gdS hi] at hO
  refine xci (sp_Mo_isLine a w.b hn) ?_
  refine gdX (fun z => ?_) (fun x hx e hxn => ?_)
  · rw [gdN z] at hO; exact bad _ hO
  subst e
  rw [gdS hx] at hO
  obtain ⟨l1, m1, s1, o1⟩ := w.1
  refine xgf o1 rfl ?_
  have ei : nI 8 + nI 7 * nI i + nI x = nI (8 + 7 * i + x) := by rw [n_mul, nI_add, nI_add]
  refine xal w.2.1 ei (show 8 + 7 * i + x < 1620 by omega) (by decide) ?_
  have := bad _ hO
  rw [← w.rg hlt x hxn] at this
  exact this
theorem sm_ex {n i : Nat} {f : Nat → Nat} (hf : PM n f) (hi : i < n) : ∃ j, j < n ∧ sm n f j = true ∧ cyl n f j = cyl n f i := by
  obtain ⟨j, ⟨k, hk⟩, hmin⟩ := pk_least (fun j => ∃ k, itr f k i = j) ⟨i, 0, rfl⟩
  have hj : j < n := by rw [← hk]; exact itr_lt hf.1 k i hi
  refine ⟨j, hj, (sm_iff hf hj).mpr (fun m => ?_), by rw [← hk]; exact cyl_itr hf hi⟩
  refine Nat.le_of_not_lt fun z => ?_
  exact hmin _ z ⟨m + k, by rw [itr_add, hk]⟩
theorem mxA_eq {n : Nat} {f : Nat → Nat} (hf : PM n f) : maxN (cyl n f) n = mxA n f n := by
  have e : ∀ m, mxA n f m = maxN (fun i => if sm n f i = true then cyl n f i else 0) m := by
    intro m
    induction m with
    | zero => rfl
    | succ m ih => unfold mxA maxN; rw [ih]
  rw [e]
  refine Nat.le_antisymm (maxN_le (fun i hi => ?_)) (maxN_le (fun i hi => ?_))
  · obtain ⟨j, hj, h1, h2⟩ := sm_ex hf hi
    have := maxN_ge (f := fun i => if sm n f i = true then cyl n f i else 0) hj
    have this : (if sm n f j = true then cyl n f j else 0) ≤ maxN (fun i => if sm n f i = true then cyl n f i else 0) n := this
    rw [if_pos h1, h2] at this
    exact this
  · show (if sm n f i = true then cyl n f i else 0) ≤ maxN (cyl n f) n
    have := maxN_ge (f := cyl n f) hi
    split <;> omega
theorem cyl_one {n i : Nat} {f : Nat → Nat} (hf : PM n f) (hi : i < n) : cyl n f i = 1 ↔ f i = i := by
  obtain ⟨c1, c2, c3, c4⟩ := cyl_spec hf hi
  constructor
  · intro e; rw [e] at c3; exact c3
  · intro e
    refine Classical.byContradiction fun z => ?_
    exact c4 1 (by omega) (by omega) e
theorem ivs_le (f : Nat → Nat) : ∀ n, n ≤ 7 → ivs f n ≤ 49 := fun n hn => by
  have := sumN_bd (f := fun i => ct (fun k => decide (f i < f k)) i) (n := n) (B := 7) (fun i hi => Nat.le_trans (ct_le _ i) (by omega))
  have h2 : n * 7 ≤ 7 * 7 := Nat.mul_le_mul_right 7 hn
  unfold ivs; omega
theorem sp_Mo_turnOf {h : xHp} {B r x : Nat} {ω : Wv} {F tx : Nat → Int32} (w : isMF h B ω F tx) (k : wok ω) (hr : r < 6) (hx : x < 7) : SpecR g_Mo_turnOf [.ref B, .int (nI r), .int (nI x)] h (fun v h' => v = some (.int (nI (prp (wN ω) (wG ω r) x))) ∧ isMF h' B ω F tx ∧ frm h h' B (B + 14)) := by
  obtain ⟨fs, hrc⟩ := bM_rc w.b
  have hn : wN ω ≤ 7 := k.1.2.1
  have hf : PM (wN ω) (wG ω r) := k.1.2.2.2.1 r hr
  refine SpecR.of (by decide +kernel) (Nat.le_of_ble_eq_true rfl) (fun c hc => by cases hc; exact ⟨_, _, _, rfl, hrc⟩) (fun v h' z => ⟨⟨_, z.1⟩, z.2.2.1, z.2.2.2.1⟩) (fun Q hQ => ?_)
  obtain ⟨l1, m1, s1, o1⟩ := w.1
  refine xgoal [(26, [0, 2, 3, 4, 5, 6, 7, 8]), (133, [0, 2, 3, 4, 5, 6, 7, 8, 10])] 100 ok_Mo_turnOf ?_
  refine xgf o1 rfl ?_
  refine xtakes (c := 3) w hn hr (by omega) (by omega) (fun h2 w2 r2 fr2 => ?_)
  have fr2' := frm_wd fr2 (show B ≤ B + 3 by omega) (show B + 3 + 1 ≤ B + 14 by omega)
  obtain ⟨l2, m2, s2, o2⟩ := w2.1
  generalize hnn : wN ω = n at *
  generalize hff : wG ω r = f at *
  have b2 : bM h2 B n F := by have := w2.b; rw [hnn] at this; exact this
  obtain ⟨g, g1, g2⟩ := r2
  have r2 : isRw h2 (B + 3) n f := ⟨g, g1, g2⟩
  have hQ := fun (v : Int32) (e : v = nI (prp n f x)) => hQ (some (.int v)) h2 ⟨by rw [e], w2, fr2'⟩
  have key := up_loop (P := fun i => xAt (h.1, h.2.1) g_Mo_turnOf Q 26 [(0, .ref B), (2, .int (nI x)), (3, .int (nI (ct (fun i => sm n f i) i))), (4, .int (nI (ct (fun i => decide (f i = i)) i))), (5, .int (nI (maxN (cyl n f) i))), (6, .int (nI (tyA n f i))), (7, .int (nI (ivs f i))), (8, .int (nI i))] [] h2) n ?_ (fun i hi ih => ?_) 0 (Nat.zero_le _)
  · exact key
  · refine xgoal [(26, [0, 2, 3, 4, 5, 6, 7, 8]), (133, [0, 2, 3, 4, 5, 6, 7, 8, 10])] 100 ok_Mo_turnOf ?_
    refine xci (sp_Mo_size b2) ?_
    refine pk_le n n (fun _ => ?_) (fun z => absurd z (by omega))
    refine pk_eq x 0 (fun c => ?_) (fun c0 => ?_)
    · subst c
      refine xgf o2 rfl ?_
      exact xci (sp_Mo_rank b2 hn r2 (PM8 hn hf)) (hQ _ rfl)
    refine pk_eq x 1 (fun c => ?_) (fun c1 => ?_)
    · subst c
      refine xgf o2 rfl ?_
      exact xci (sp_Mo_orderOf b2 hn r2 hf) (hQ _ rfl)
    refine pk_eq x 2 (fun c => ?_) (fun c2 => ?_)
    · subst c; exact hQ _ rfl
    refine pk_eq x 3 (fun c => ?_) (fun c3 => ?_)
    · subst c; exact hQ _ rfl
    refine pk_eq x 4 (fun c => ?_) (fun c4 => ?_)
    · subst c; exact hQ _ (by show nI (maxN (cyl n f) n) = nI (mxA n f n); rw [mxA_eq hf])
    refine pk_eq x 5 (fun c => ?_) (fun c5 => ?_)
    · subst c
      refine And.intro n_ne2 ?_
      have := ivs_le f n hn
      exact hQ _ (by rw [n_mod2 (by omega), par_ok n f hf]; rfl)
    · have : x = 6 := by omega
      subst this
      exact hQ _ rfl
  · obtain ⟨c1, c2, -⟩ := cyl_spec hf hi
    have cm : maxN (cyl n f) i ≤ 7 := maxN_le (fun j hj => by have := (cyl_spec hf (show j < n by omega)).2.1; omega)
    -- the inner loop
    have inn : ∀ v3 v4 v5 v6 : Int32, v3 = nI (ct (fun i => sm n f i) (i + 1)) → v4 = nI (ct (fun i => decide (f i = i)) (i + 1)) → v5 = nI (maxN (cyl n f) (i + 1)) → v6 = nI (tyA n f (i + 1)) → xAt (h.1, h.2.1) g_Mo_turnOf Q 133 [(0, .ref B), (2, .int (nI x)), (3, .int v3), (4, .int v4), (5, .int v5), (6, .int v6), (7, .int (nI (ivs f i))), (8, .int (nI i)), (10, .int (nI 0))] [] h2 := by
      intro v3 v4 v5 v6 e3 e4 e5 e6
      subst e3 e4 e5 e6
      have key := up_loop (P := fun t => xAt (h.1, h.2.1) g_Mo_turnOf Q 133 [(0, .ref B), (2, .int (nI x)), (3, .int (nI (ct (fun i => sm n f i) (i + 1)))), (4, .int (nI (ct (fun i => decide (f i = i)) (i + 1)))), (5, .int (nI (maxN (cyl n f) (i + 1)))), (6, .int (nI (tyA n f (i + 1)))), (7, .int (nI (ivs f i + ct (fun k => decide (f i < f k)) t))), (8, .int (nI i)), (10, .int (nI t))] [] h2) i ?_ (fun t ht iht => ?_) 0 (Nat.zero_le _)
      · exact key
      · refine xgoal [(26, [0, 2, 3, 4, 5, 6, 7, 8]), (133, [0, 2, 3, 4, 5, 6, 7, 8, 10])] 100 ok_Mo_turnOf ?_
        refine pk_le i i (fun _ => ?_) (fun z => absurd z (by omega))
        have ih : xAt (h.1, h.2.1) g_Mo_turnOf Q 26 [(0, .ref B), (2, .int (nI x)), (3, .int (nI (ct (fun i => sm n f i) (i + 1)))), (4, .int (nI (ct (fun i => decide (f i = i)) (i + 1)))), (5, .int (nI (maxN (cyl n f) (i + 1)))), (6, .int (nI (tyA n f (i + 1)))), (7, .int (nI (ivs f i + ct (fun k => decide (f i < f k)) i))), (8, .int (nI (i + 1)))] [] h2 := ih
        rw [← nI_1 i] at ih
        exact ih
      · have f1 := hf.1 t (by omega)
        have f2 := hf.1 i hi
        refine xgoal [(26, [0, 2, 3, 4, 5, 6, 7, 8]), (133, [0, 2, 3, 4, 5, 6, 7, 8, 10])] 100 ok_Mo_turnOf ?_
        refine pk_le i t (fun z => absurd z (by omega)) (fun _ => ?_)
        refine xgf o2 rfl ?_
        refine xal g1 rfl (show t < 7 by omega) (by decide) ?_
        refine xgf o2 rfl ?_
        refine xal g1 rfl (show i < 7 by omega) (by decide) ?_
        have ec : ct (fun k => decide (f i < f k)) (t + 1) = ct (fun k => decide (f i < f k)) t + if f i < f t then 1 else 0 := by
          show _ + (if decide (f i < f t) = true then 1 else 0) = _
          simp
        refine pk_le (f t) (f i) (fun z => ?_) (fun z => ?_) (g2 t (by omega)) (g2 i hi)
        · have e9 : nI (ivs f i + ct (fun k => decide (f i < f k)) (t + 1)) = nI (ivs f i + ct (fun k => decide (f i < f k)) t) + nI 0 := by rw [ec, if_neg (by omega), n_add0]; rfl
          rw [e9, ← nI_1 t] at iht
          exact iht
        · have e9 : nI (ivs f i + ct (fun k => decide (f i < f k)) (t + 1)) = nI (ivs f i + ct (fun k => decide (f i < f k)) t) + nI 1 := by rw [ec, if_pos z, nI_add]; rfl
          rw [e9, ← nI_1 t] at iht
          exact iht
    have es : ct (fun i => sm n f i) (i + 1) = ct (fun i => sm n f i) i + if sm n f i = true then 1 else 0 := rfl
    have ef : ct (fun i => decide (f i = i)) (i + 1) = ct (fun i => decide (f i = i)) i + if cyl n f i = 1 then 1 else 0 := by
      show _ + (if decide (f i = i) = true then 1 else 0) = _
      have := cyl_one hf hi
      by_cases z : f i = i
      · rw [if_pos (decide_eq_true z), if_pos (this.mpr z)]
      · rw [if_neg (by simpa using z), if_neg (fun y => z (this.mp y))]
    have em : maxN (cyl n f) (i + 1) = max (maxN (cyl n f) i) (cyl n f i) := rfl
    have et : tyA n f (i + 1) = tyA n f i + if sm n f i = true then 2 ^ (3 * (cyl n f i - 1)) else 0 := rfl
    have e2 : nI 1 <<< ((nI 3 * (nI (cyl n f i) - nI 1)) &&& 31) = nI (2 ^ (3 * (cyl n f i - 1))) := by
      rw [pk_sub c1, n_mul, n_shl _ _ (by omega), Nat.one_mul]
    have sp := sp_Mo_isFirst b2 hn r2 hf hi
    generalize ct (fun i => sm n f i) (i + 1) = S' at *
    generalize ct (fun i => sm n f i) i = S0 at *
    generalize ct (fun i => decide (f i = i)) (i + 1) = O' at *
    generalize ct (fun i => decide (f i = i)) i = O0 at *
    generalize maxN (cyl n f) (i + 1) = M' at *
    generalize maxN (cyl n f) i = M0 at *
    generalize tyA n f (i + 1) = T' at *
    generalize tyA n f i = T0 at *
    generalize ivs f i = V0 at *
    have a130 : xAt (h.1, h.2.1) g_Mo_turnOf Q 130 [(0, .ref B), (2, .int (nI x)), (3, .int (nI S')), (4, .int (nI O')), (5, .int (nI M')), (6, .int (nI T')), (7, .int (nI V0)), (8, .int (nI i))] [] h2 := by
      refine xgoal [(133, [0, 2, 3, 4, 5, 6, 7, 8, 10])] 100 ok_Mo_turnOf ?_
      exact inn _ _ _ _ rfl rfl rfl rfl
    have a100 : xAt (h.1, h.2.1) g_Mo_turnOf Q 100 [(0, .ref B), (2, .int (nI x)), (3, .int (nI S')), (4, .int (nI O')), (5, .int (nI M')), (6, .int (nI T0)), (7, .int (nI V0)), (8, .int (nI i)), (9, .int (nI (cyl n f i)))] [] h2 := by
      refine xgoal [(130, [0, 2, 3, 4, 5, 6, 7, 8])] 100 ok_Mo_turnOf ?_
      refine xgf o2 rfl ?_
      refine xci sp ?_
      by_cases y3 : sm n f i = true
      · rw [if_pos y3] at et
        rw [et, ← nI_add, ← e2] at a130
        exact pk_eq 1 0 (fun z => absurd z (by omega)) (fun _ => a130) (by rw [if_pos y3]) rfl
      · rw [if_neg y3] at et
        rw [et, ← nI_add] at a130
        exact pk_eq 0 0 (fun _ => a130) (fun z => absurd rfl z) (by rw [if_neg y3]) rfl
    have a79 : xAt (h.1, h.2.1) g_Mo_turnOf Q 79 [(0, .ref B), (2, .int (nI x)), (3, .int (nI S0)), (4, .int (nI O')), (5, .int (nI M')), (6, .int (nI T0)), (7, .int (nI V0)), (8, .int (nI i)), (9, .int (nI (cyl n f i)))] [] h2 := by
      refine xgoal [(100, [0, 2, 3, 4, 5, 6, 7, 8, 9])] 100 ok_Mo_turnOf ?_
      refine xgf o2 rfl ?_
      refine xci sp ?_
      by_cases y3 : sm n f i = true
      · rw [if_pos y3] at es
        rw [es, ← nI_add] at a100
        exact pk_eq 1 0 (fun z => absurd z (by omega)) (fun _ => a100) (by rw [if_pos y3]) rfl
      · rw [if_neg y3] at es
        rw [es, ← nI_add] at a100
        exact pk_eq 0 0 (fun _ => a100) (fun z => absurd rfl z) (by rw [if_neg y3]) rfl
    have a63 : xAt (h.1, h.2.1) g_Mo_turnOf Q 63 [(0, .ref B), (2, .int (nI x)), (3, .int (nI S0)), (4, .int (nI O')), (5, .int (nI M0)), (6, .int (nI T0)), (7, .int (nI V0)), (8, .int (nI i)), (9, .int (nI (cyl n f i)))] [] h2 := by
      refine xgoal [(79, [0, 2, 3, 4, 5, 6, 7, 8, 9])] 100 ok_Mo_turnOf ?_
      refine pk_le (cyl n f i) M0 (fun y2 => ?_) (fun y2 => ?_)
      · rw [em, Nat.max_eq_left (by omega)] at a79
        exact a79
      · rw [em, Nat.max_eq_right (by omega)] at a79
        exact a79
    refine xgoal [(63, [0, 2, 3, 4, 5, 6, 7, 8, 9])] 100 ok_Mo_turnOf ?_
    refine xci (sp_Mo_size b2) ?_
    refine pk_le n i (fun z => absurd z (by omega)) (fun _ => ?_)
    refine xgf o2 rfl ?_
    refine xci (sp_Mo_cycleOf b2 hn r2 hf hi) ?_
    refine pk_eq (cyl n f i) 1 (fun y1 => ?_) (fun y1 => ?_)
    · rw [if_pos y1] at ef
      rw [ef, ← nI_add] at a63
      exact a63
    · rw [if_neg y1] at ef
      rw [ef, ← nI_add] at a63
      exact a63
theorem sp_Mo_turn {h : xHp} {B : Nat} {ω : Wv} {r a : Int32} (w : isM h B ω) (k : wok ω) : SpecR g_Mo_turn [.ref B, .int r, .int a] h (pM h B (stTurn ω r a)) := by
  obtain ⟨F, tx, w⟩ := w
  obtain ⟨fs, hrc⟩ := bM_rc w.b
  refine SpecR.of (by decide +kernel) (Nat.le_of_ble_eq_true rfl) (fun c hc => by cases hc; exact ⟨_, _, _, rfl, hrc⟩) (fun v h' z => ⟨⟨_, z.1⟩, z.2.2.1, z.2.2.2.1⟩) (fun Q hQ => ?_)
  generalize hO : stTurn ω r a = o at hQ
  unfold stTurn at hO
  have bad : ∀ c, (c, ω) = o → Q (some (.int c)) h := fun c e => by subst e; exact hQ _ _ ⟨rfl, ⟨F, tx, w⟩, frm_rf⟩
  have fin : ∀ (v : Int32) (ω' : Wv) (h' : xHp) (F' tx' : Nat → Int32), (v, ω') = o → isMF h' B ω' F' tx' → frm h h' B (B + 14) → Q (some (.int v)) h' := fun v ω' h' F' tx' e w' f => by subst e; exact hQ _ _ ⟨rfl, ⟨F', tx', w'⟩, f⟩
  have hn1 : 2 ≤ wN ω := k.1.1
  have hn : wN ω ≤ 7 := k.1.2.1
  have hS : ∀ i, i < wN ω → sS ω.1 i < 4 := k.1.2.2.1
  have hG : ∀ r, r < 6 → PM (wN ω) (wG ω r) := k.1.2.2.2.1
  have hP : pok (wN ω) (wP ω) := k.1.2.2.2.2
  refine xgoal [] 100 ok_Mo_turn ?_
  refine xci (sp_Mo_isRegister r h) ?_
  refine gdX (fun z => ?_) (fun i hi e hlt => ?_)
  · rw [gdN z] at hO; exact bad _ hO
  subst e
  rw [gdS hi] at hO
  have sp := sp_Mo_in a (nI 0) (nI 7 - nI 1) h
  rw [in_ib (by omega)] at sp
  refine xci sp ?_
  refine gdX (fun z => ?_) (fun x hx e hx7 => ?_)
  · rw [gdN z] at hO; exact bad _ hO
  subst e
  rw [gdS hx] at hO
  refine xri (sp_Mo_turnOf w k hlt hx7) ?_
  rintro v h2 ⟨e, w2, fr2⟩
  cases e
  exact fin _ _ h2 F tx hO w2 fr2
theorem sp_Mo_places {h : xHp} {B : Nat} {ω : Wv} {r a b : Int32} (w : isM h B ω) (k : wok ω) : SpecR g_Mo_places [.ref B, .int r, .int a, .int b] h (pM h B (stPlaces ω r a b)) := by
  obtain ⟨F, tx, w⟩ := w
  obtain ⟨fs, hrc⟩ := bM_rc w.b
  refine SpecR.of (by decide +kernel) (Nat.le_of_ble_eq_true rfl) (fun c hc => by cases hc; exact ⟨_, _, _, rfl, hrc⟩) (fun v h' z => ⟨⟨_, z.1⟩, z.2.2.1, z.2.2.2.1⟩) (fun Q hQ => ?_)
  generalize hO : stPlaces ω r a b = o at hQ
  unfold stPlaces at hO
  have bad : ∀ c, (c, ω) = o → Q (some (.int c)) h := fun c e => by subst e; exact hQ _ _ ⟨rfl, ⟨F, tx, w⟩, frm_rf⟩
  have fin : ∀ (v : Int32) (ω' : Wv) (h' : xHp) (F' tx' : Nat → Int32), (v, ω') = o → isMF h' B ω' F' tx' → frm h h' B (B + 14) → Q (some (.int v)) h' := fun v ω' h' F' tx' e w' f => by subst e; exact hQ _ _ ⟨rfl, ⟨F', tx', w'⟩, f⟩
  have hn1 : 2 ≤ wN ω := k.1.1
  have hn : wN ω ≤ 7 := k.1.2.1
  have hS : ∀ i, i < wN ω → sS ω.1 i < 4 := k.1.2.2.1
  have hG : ∀ r, r < 6 → PM (wN ω) (wG ω r) := k.1.2.2.2.1
  have hP : pok (wN ω) (wP ω) := k.1.2.2.2.2
  refine xgoal [(47, [0, 3, 4, 5, 6]), (56, [0, 3, 4, 5, 6, 7])] 100 ok_Mo_places ?_
  refine xci (sp_Mo_isRegister r h) ?_
  refine gdX (fun z => ?_) (fun i hi e hlt => ?_)
  · rw [gdN z] at hO; exact bad _ hO
  subst e
  rw [gdS hi] at hO
  refine xci (sp_Mo_isLine a w.b hn) ?_
  refine gdX (fun z => ?_) (fun x hx e hxn => ?_)
  · rw [gdN z] at hO; exact bad _ hO
  subst e
  rw [gdS hx] at hO
  have sp := sp_Mo_in b (nI 0) (nI 101 - nI 1) h
  rw [in_ib (by omega)] at sp
  refine xci sp ?_
  refine gdX (fun z => ?_) (fun y hy e hy101 => ?_)
  · rw [gdN z] at hO; exact bad _ hO
  subst e
  rw [gdS hy] at hO
  have pmi := inv_PM (hG i hlt)
  obtain ⟨l1, m1, s1, o1⟩ := w.1
  refine xgf o1 rfl ?_
  refine xtakes (c := 3) w hn hlt (by omega) (by omega) (fun h2 w2 r2 fr2 => ?_)
  obtain ⟨g, g1, g2⟩ := r2
  obtain ⟨l2, m2, s2, o2⟩ := w2.1
  have key := up_loop (P := fun j => xAt (h.1, h.2.1) g_Mo_places Q 47 [(0, .ref B), (3, .int (nI y)), (4, .int (nI (plA (inv (wN ω) (wG ω i)) x j))), (5, .int (nI (itr (inv (wN ω) (wG ω i)) j x))), (6, .int (nI j))] [] h2) y ?_ (fun j hj ih => ?_) 0 (Nat.zero_le _)
  · rw [show plA (inv (wN ω) (wG ω i)) x 0 = 2 ^ x from rfl, ← n_bit1 (by omega)] at key
    exact key
  · refine xgoal [(47, [0, 3, 4, 5, 6]), (56, [0, 3, 4, 5, 6, 7])] 100 ok_Mo_places ?_
    exact pk_le y y (fun _ => fin _ _ h2 F tx hO w2 (frm_wd fr2 (by omega) (by omega))) (fun z => absurd z (by omega))
  · have hl := itr_lt pmi.1 j x hxn
    have hl2 := pmi.1 _ hl
    have hgi := (get_inv (hG i hlt) hl).2
    refine xgoal [(47, [0, 3, 4, 5, 6]), (56, [0, 3, 4, 5, 6, 7])] 100 ok_Mo_places ?_
    refine pk_le y j (fun z => absurd z (by omega)) (fun _ => ?_)
    refine up_loop (P := fun t => xAt (h.1, h.2.1) g_Mo_places Q 56 [(0, .ref B), (3, .int (nI y)), (4, .int (nI (plA (inv (wN ω) (wG ω i)) x j))), (5, .int (nI (itr (inv (wN ω) (wG ω i)) j x))), (6, .int (nI j)), (7, .int (nI t))] [] h2) (inv (wN ω) (wG ω i) (itr (inv (wN ω) (wG ω i)) j x)) ?_ (fun t ht iht => ?_) 0 (Nat.zero_le _)
    · refine xgoal [(47, [0, 3, 4, 5, 6]), (56, [0, 3, 4, 5, 6, 7])] 100 ok_Mo_places ?_
      refine xgf o2 rfl ?_
      refine xal g1 rfl (show inv (wN ω) (wG ω i) (itr (inv (wN ω) (wG ω i)) j x) < 7 by omega) (by decide) ?_
      refine pk_eq (itr (inv (wN ω) (wG ω i)) j x) (itr (inv (wN ω) (wG ω i)) j x) (fun _ => ?_) (fun z => absurd rfl z) (by rw [g2 _ hl2, hgi]) rfl
      unfold plA at ih
      rw [← n_or, show itr (inv (wN ω) (wG ω i)) (j + 1) x = inv (wN ω) (wG ω i) (itr (inv (wN ω) (wG ω i)) j x) from rfl, ← n_bit1 (by omega), ← nI_1 j] at ih
      exact ih
    · have htn : t < wN ω := by omega
      have hft := (hG i hlt).1 t htn
      refine xgoal [(47, [0, 3, 4, 5, 6]), (56, [0, 3, 4, 5, 6, 7])] 100 ok_Mo_places ?_
      refine xgf o2 rfl ?_
      refine xal g1 rfl (show t < 7 by omega) (by decide) ?_
      refine pk_eq (wG ω i t) (itr (inv (wN ω) (wG ω i)) j x) (fun z => ?_) (fun _ => ?_) (g2 t htn) rfl
      · exfalso
        have : inv (wN ω) (wG ω i) (wG ω i t) = t := inv_get (hG i hlt) htn
        rw [z] at this
        omega
      · rw [← nI_1 t] at iht
        exact iht
