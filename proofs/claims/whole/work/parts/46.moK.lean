/-! THE REFERENCE'S CALLS: what is told, undone, mixed -/
theorem sp_Mo_properMany {h : xHp} {B : Nat} {ω : Wv} {F tx : Nat → Int32} (w : isMF h B ω F tx) (k : wok ω) : Spec g_Mo_properMany [.ref B] h (some (.int (nI (ct (fun s => prop (wN ω) (pst (wP ω) s)) (pc (wP ω)))))) h := by
  obtain ⟨fs, hrc⟩ := bM_rc w.b
  obtain ⟨l1, m1, s1, o1⟩ := w.1
  have hc8 : pc (wP ω) ≤ 8 := k.1.2.2.2.2.1
  have q4 : F 50 = nI (pc (wP ω)) := (pg0.mp w.2.2.1.1).2.2.2.1
  refine Spec.of (by decide +kernel) (Nat.le_of_ble_eq_true rfl) ⟨_, rfl⟩ rfl rfl (fun c hc => by cases hc; exact ⟨_, _, _, rfl, hrc⟩) (fun Q hQ => ?_)
  refine xgoal [(4, [0, 1, 2])] 100 ok_Mo_properMany ?_
  refine up_loop (P := fun s => xAt (h.1, h.2.1) g_Mo_properMany Q 4 [(0, .ref B), (1, .int (nI (ct (fun s => prop (wN ω) (pst (wP ω) s)) s))), (2, .int (nI s))] [] h) (pc (wP ω)) ?_ (fun s hs ih => ?_) 0 (Nat.zero_le _)
  · refine xgoal [(4, [0, 1, 2])] 100 ok_Mo_properMany ?_
    refine xgf o1 rfl ?_
    refine xal w.2.1 rfl (show 50 < 1620 by omega) (by decide) ?_
    exact pk_le (pc (wP ω)) (pc (wP ω)) (fun _ => hQ) (fun z => absurd z (by omega)) q4 rfl
  · refine xgoal [(4, [0, 1, 2])] 100 ok_Mo_properMany ?_
    refine xgf o1 rfl ?_
    refine xal w.2.1 rfl (show 50 < 1620 by omega) (by decide) ?_
    refine pk_le (pc (wP ω)) s (fun z => absurd z (by omega)) (fun _ => ?_) q4 rfl
    refine xci (sp_Mo_isProper w k hs) ?_
    unfold ct at ih
    by_cases c : prop (wN ω) (pst (wP ω) s) = true
    · rw [if_pos c, ← nI_add, ← nI_1 s] at ih
      exact pk_eq 1 0 (fun z => absurd z (by omega)) (fun _ => ih) (by rw [if_pos c]) rfl
    · rw [if_neg c, ← nI_add, ← nI_1 s] at ih
      exact pk_eq 0 0 (fun _ => ih) (fun z => absurd rfl z) (by rw [if_neg c]) rfl
theorem sp_Mo_locked {h : xHp} {B : Nat} {ω : Wv} {F tx : Nat → Int32} (w : isMF h B ω F tx) (k : wok ω) : Spec g_Mo_locked [.ref B] h (some (.int (nI (sumN (fun s => pop (plk (wP ω) s)) (pc (wP ω)))))) h := by
  obtain ⟨fs, hrc⟩ := bM_rc w.b
  obtain ⟨l1, m1, s1, o1⟩ := w.1
  have hn : wN ω ≤ 7 := k.1.2.1
  have hP : pok (wN ω) (wP ω) := k.1.2.2.2.2
  have hc8 := hP.1
  have q4 : F 50 = nI (pc (wP ω)) := (pg0.mp w.2.2.1.1).2.2.2.1
  have q6 := (pg0.mp w.2.2.1.1).2.2.2.2.2.1
  refine Spec.of (by decide +kernel) (Nat.le_of_ble_eq_true rfl) ⟨_, rfl⟩ rfl rfl (fun c hc => by cases hc; exact ⟨_, _, _, rfl, hrc⟩) (fun Q hQ => ?_)
  refine xgoal [(4, [0, 1, 2])] 100 ok_Mo_locked ?_
  refine up_loop (P := fun s => xAt (h.1, h.2.1) g_Mo_locked Q 4 [(0, .ref B), (1, .int (nI (sumN (fun s => pop (plk (wP ω) s)) s))), (2, .int (nI s))] [] h) (pc (wP ω)) ?_ (fun s hs ih => ?_) 0 (Nat.zero_le _)
  · refine xgoal [(4, [0, 1, 2])] 100 ok_Mo_locked ?_
    refine xgf o1 rfl ?_
    refine xal w.2.1 rfl (show 50 < 1620 by omega) (by decide) ?_
    exact pk_le (pc (wP ω)) (pc (wP ω)) (fun _ => hQ) (fun z => absurd z (by omega)) q4 rfl
  · have ep := pop_ct (wN ω) (by omega) (plk (wP ω) s) (hP.2.2.1 s hs)
    rw [show sumN (fun s => pop (plk (wP ω) s)) (s + 1) = sumN (fun s => pop (plk (wP ω) s)) s + pop (plk (wP ω) s) from rfl] at ih
    generalize sumN (fun s => pop (plk (wP ω) s)) s = T at ih ⊢
    refine xgoal [(4, [0, 1, 2]), (17, [0, 1, 2, 3])] 100 ok_Mo_locked ?_
    refine xgf o1 rfl ?_
    refine xal w.2.1 rfl (show 50 < 1620 by omega) (by decide) ?_
    refine pk_le (pc (wP ω)) s (fun z => absurd z (by omega)) (fun _ => ?_) q4 rfl
    have key := up_loop (P := fun j => xAt (h.1, h.2.1) g_Mo_locked Q 17 [(0, .ref B), (1, .int (nI (T + ct (fun b => (plk (wP ω) s).testBit b) j))), (2, .int (nI s)), (3, .int (nI j))] [] h) (wN ω) ?_ (fun j hj ih2 => ?_) 0 (Nat.zero_le _)
    · exact key
    · rw [ep]
      rw [← nI_1 s] at ih
      refine xgoal [(4, [0, 1, 2]), (17, [0, 1, 2, 3])] 100 ok_Mo_locked ?_
      refine xci (sp_Mo_size w.b) ?_
      exact pk_le (wN ω) (wN ω) (fun _ => ih) (fun z => absurd z (by omega))
    · have hv : F (107 + (7 * s + j)) = nI (plk (wP ω) s / 2 ^ j % 2) := by rw [← Nat.add_assoc]; exact q6 s hs j hj
      refine xgoal [(17, [0, 1, 2, 3])] 100 ok_Mo_locked ?_
      refine xci (sp_Mo_size w.b) ?_
      refine pk_le (wN ω) j (fun z => absurd z (by omega)) (fun _ => ?_)
      refine xgf o1 rfl ?_
      refine xci (sp_Mo_placeOf (s := s) (i := j) w.b) ?_
      refine xal w.2.1 (nI_add 107 (7 * s + j)) (show 107 + (7 * s + j) < 1620 by omega) (by decide) ?_
      rw [ct_bit, ← Nat.add_assoc, ← nI_add, ← hv, ← nI_1 j] at ih2
      exact ih2
theorem sp_Mo_told {h : xHp} {B : Nat} {ω : Wv} {a : Int32} (w : isM h B ω) (k : wok ω) : SpecR g_Mo_told [.ref B, .int a] h (pM h B (stTold ω a)) := by
  obtain ⟨F, tx, w⟩ := w
  obtain ⟨fs, hrc⟩ := bM_rc w.b
  refine SpecR.of (by decide +kernel) (Nat.le_of_ble_eq_true rfl) (fun c hc => by cases hc; exact ⟨_, _, _, rfl, hrc⟩) (fun v h' z => ⟨⟨_, z.1⟩, z.2.2.1, z.2.2.2.1⟩) (fun Q hQ => ?_)
  generalize hO : stTold ω a = o at hQ
  unfold stTold at hO
  have bad : ∀ c, (c, ω) = o → Q (some (.int c)) h := fun c e => by subst e; exact hQ _ _ ⟨rfl, ⟨F, tx, w⟩, frm_rf⟩
  have fin : ∀ (v : Int32) (ω' : Wv) (h' : xHp) (F' tx' : Nat → Int32), (v, ω') = o → isMF h' B ω' F' tx' → frm h h' B (B + 14) → Q (some (.int v)) h' := fun v ω' h' F' tx' e w' f => by subst e; exact hQ _ _ ⟨rfl, ⟨F', tx', w'⟩, f⟩
  have hn1 : 2 ≤ wN ω := k.1.1
  have hn : wN ω ≤ 7 := k.1.2.1
  have hS : ∀ i, i < wN ω → sS ω.1 i < 4 := k.1.2.2.1
  have hG : ∀ r, r < 6 → PM (wN ω) (wG ω r) := k.1.2.2.2.1
  have hP : pok (wN ω) (wP ω) := k.1.2.2.2.2
  refine xgoal [] 100 ok_Mo_told ?_
  have hc8 := hP.1
  obtain ⟨l1, m1, s1, o1⟩ := w.1
  have q4 : F 50 = nI (pc (wP ω)) := (pg0.mp w.2.2.1.1).2.2.2.1
  cases hx : ix 6 a with
  | none =>
    rw [gdN hx] at hO
    have no : ∀ j, j < 6 → ¬ a = nI j := fun j hj e => by rw [e, ix_nI hj (by omega)] at hx; cases hx
    refine And.intro (fun z => absurd z (no 0 (by omega))) (fun _ => ?_)
    refine And.intro (fun z => absurd z (no 1 (by omega))) (fun _ => ?_)
    refine And.intro (fun z => absurd z (no 2 (by omega))) (fun _ => ?_)
    refine And.intro (fun z => absurd z (no 3 (by omega))) (fun _ => ?_)
    refine And.intro (fun z => absurd z (no 4 (by omega))) (fun _ => ?_)
    refine And.intro (fun z => absurd z (no 5 (by omega))) (fun _ => ?_)
    exact bad _ hO
  | some x =>
    obtain ⟨e, hx6⟩ := ix_some hx
    subst e
    rw [gdS hx] at hO
    refine pk_eq x 0 (fun c => ?_) (fun c0 => ?_)
    · subst c
      refine xci (sp_Mo_size w.b) ?_
      exact bad _ hO
    refine pk_eq x 1 (fun c => ?_) (fun c1 => ?_)
    · subst c
      refine xgf o1 rfl ?_
      refine xal w.2.1 rfl (show 50 < 1620 by omega) (by decide) ?_
      exact bad _ (by rw [q4]; exact hO)
    refine pk_eq x 2 (fun c => ?_) (fun c2 => ?_)
    · subst c
      refine xci (sp_Mo_properMany w k) ?_
      exact bad _ hO
    refine pk_eq x 3 (fun c => ?_) (fun c3 => ?_)
    · subst c
      refine xci (sp_Mo_locked w k) ?_
      exact bad _ hO
    refine pk_eq x 4 (fun c => ?_) (fun c4 => ?_)
    · subst c
      refine xgf o1 rfl ?_
      exact bad _ hO
    refine pk_eq x 5 (fun c => ?_) (fun c5 => absurd hx6 (by omega))
    subst c
    refine xgf o1 rfl ?_
    exact bad _ hO
theorem sp_Mo_undo {h : xHp} {B : Nat} {ω : Wv} (w : isM h B ω) (k : wok ω) : SpecR g_Mo_undo [.ref B] h (pM h B (stUndo ω)) := by
  obtain ⟨F, tx, w⟩ := w
  obtain ⟨fs, hrc⟩ := bM_rc w.b
  refine SpecR.of (by decide +kernel) (Nat.le_of_ble_eq_true rfl) (fun c hc => by cases hc; exact ⟨_, _, _, rfl, hrc⟩) (fun v h' z => ⟨⟨_, z.1⟩, z.2.2.1, z.2.2.2.1⟩) (fun Q hQ => ?_)
  generalize hO : stUndo ω = o at hQ
  unfold stUndo at hO
  have bad : ∀ c, (c, ω) = o → Q (some (.int c)) h := fun c e => by subst e; exact hQ _ _ ⟨rfl, ⟨F, tx, w⟩, frm_rf⟩
  have fin : ∀ (v : Int32) (ω' : Wv) (h' : xHp) (F' tx' : Nat → Int32), (v, ω') = o → isMF h' B ω' F' tx' → frm h h' B (B + 14) → Q (some (.int v)) h' := fun v ω' h' F' tx' e w' f => by subst e; exact hQ _ _ ⟨rfl, ⟨F', tx', w'⟩, f⟩
  have hn1 : 2 ≤ wN ω := k.1.1
  have hn : wN ω ≤ 7 := k.1.2.1
  have hS : ∀ i, i < wN ω → sS ω.1 i < 4 := k.1.2.2.1
  have hG : ∀ r, r < 6 → PM (wN ω) (wG ω r) := k.1.2.2.2.1
  have hP : pok (wN ω) (wP ω) := k.1.2.2.2.2
  refine xgoal [(12, [0, 1])] 100 ok_Mo_undo ?_
  obtain ⟨l1, m1, s1, o1⟩ := w.1
  obtain ⟨p1, p2⟩ := w.2.2.1.2
  cases hl : ω.2.1 with
  | nil =>
    rw [hl] at hO o1
    have o1 : xat h B (obM B (nI 0) (nI (wT ω)) l1 m1 s1) := o1
    have hO : (-2, ω) = o := hO
    refine xgf o1 rfl ?_
    exact pk_eq 0 0 (fun _ => bad _ hO) (fun z => absurd rfl z)
  | cons σ rest =>
    rw [hl] at hO o1 p1 p2
    have hO : (nI rest.length, (σ, rest, ω.2.2)) = o := hO
    rw [List.length_cons] at p1
    have o1 : xat h B (obM B (nI (rest.length + 1)) (nI (wT ω)) l1 m1 s1) := o1
    have kσ : sok σ := k.2.1 σ (by rw [hl]; exact List.mem_cons_self)
    have kr : ∀ τ, τ ∈ rest → sok τ := fun τ hτ => k.2.1 τ (by rw [hl]; exact List.mem_cons_of_mem _ hτ)
    have pσ := p2 0 σ rfl
    rw [List.length_cons, Nat.sub_zero] at pσ
    refine xgf o1 rfl ?_
    refine pk_eq (rest.length + 1) 0 (fun z => absurd z (by omega)) (fun _ => ?_)
    refine up_loop (P := fun x => ∀ (k2 : xHp) (F2 : Nat → Int32), frm h k2 (B + 1) (B + 2) → xat k2 (B + 1) (xia 1620 F2) → (∀ y, y < x → F2 y = F (180 * (rest.length + 1) + y)) → (∀ y, 180 ≤ y → F2 y = F y) → xAt (h.1, h.2.1) g_Mo_undo Q 12 [(0, .ref B), (1, .int (nI x))] [] k2) 180 ?_ (fun x hx ih => ?_) 0 (Nat.zero_le _) h F frm_rf w.2.1 (fun y hy => absurd hy (Nat.not_lt_zero y)) (fun _ _ => rfl)
    · intro k2 F2 fr2 g2 e1 e2
      have o2 := xat_fr o1 fr2 (by omega)
      have w2 : isMF k2 B (σ, ω.2) F2 tx := w.pgw fr2 g2 (pg_mv kσ (fun x hx => by rw [Nat.zero_add]; exact e1 x hx) pσ) (pgs_hi k.2.1 w.2.2.1.2 e2)
      refine xgoal [(12, [0, 1])] 100 ok_Mo_undo ?_
      refine pk_le 180 180 (fun _ => ?_) (fun z => absurd z (by omega))
      refine xgf o2 rfl ?_
      refine xpf o2 (Nat.le_of_ble_eq_true rfl) rfl ?_
      have o3 : xat (xset k2 B (obM B (nI (rest.length + 1) - nI 1) (nI (wT ω)) l1 m1 s1)) B (obM B (nI (rest.length + 1) - nI 1) (nI (wT ω)) l1 m1 s1) := xat_sf o2.1
      have ed : nI (rest.length + 1) - nI 1 = nI rest.length := by rw [pk_sub (by omega)]; rfl
      have fr3 : frm k2 (xset k2 B (obM B (nI (rest.length + 1) - nI 1) (nI (wT ω)) l1 m1 s1)) B (B + 1) := frm_set frm_rf (by omega) (by omega)
      obtain ⟨-, y1, ⟨y2, -⟩, ⟨y3, y4⟩, y5⟩ := w2
      have w3 : isMF (xset k2 B (obM B (nI (rest.length + 1) - nI 1) (nI (wT ω)) l1 m1 s1)) B (σ, rest, ω.2.2) F2 tx := by
        refine ⟨⟨l1, m1, s1, by rw [← ed]; exact o3⟩, xat_fr y1 fr3 (by omega), ⟨y2, ⟨by show rest.length ≤ 8; omega, fun j τ hj => ?_⟩⟩, ⟨xat_fr y3 fr3 (by omega), y4⟩, y5.fr fr3 (by omega)⟩
        have hj : rest[j]? = some τ := hj
        have hlt := (List.getElem?_eq_some_iff.mp hj).1
        have hp := p2 (j + 1) τ (by rw [List.getElem?_cons_succ]; exact hj)
        rw [List.length_cons, show rest.length + 1 - (j + 1) = rest.length - j by omega] at hp
        show pg F2 (180 * (rest.length - j)) τ
        exact pg_mv (kr τ (List.mem_of_getElem? hj)) (fun x hx => e2 _ (by omega)) hp
      refine xgf o3 rfl ?_
      exact fin _ _ _ _ tx (by rw [ed]; exact hO) w3 (frm_tr (frm_wd fr2 (show B ≤ B + 1 by omega) (show B + 2 ≤ B + 14 by omega)) fr3 (by omega) (by omega))
    · intro k2 F2 fr2 g2 e1 e2
      have o2 := xat_fr o1 fr2 (by omega)
      refine xgoal [(12, [0, 1])] 100 ok_Mo_undo ?_
      refine pk_le 180 x (fun z => absurd z (by omega)) (fun _ => ?_)
      refine xgf o2 rfl ?_
      refine xgf o2 rfl ?_
      refine xgf o2 rfl ?_
      have ei : nI 180 * nI (rest.length + 1) + nI x = nI (180 * (rest.length + 1) + x) := by rw [n_mul, nI_add]
      refine xal g2 ei (show 180 * (rest.length + 1) + x < 1620 by omega) (by decide) ?_
      refine xal g2 rfl (show x < 1620 by omega) (by decide) ?_
      have ih := ih (xset k2 (B + 1) (xia 1620 (upd F2 x (F2 (180 * (rest.length + 1) + x))))) _ (frm_set fr2 (by omega) (by omega)) (xat_sf g2.1) (fun y hy => by
        unfold upd
        by_cases e : y = x
        · rw [if_pos e, e2 _ (by omega), e]
        · rw [if_neg e]; exact e1 y (by omega)) (fun y hy => by unfold upd; rw [if_neg (by omega)]; exact e2 y hy)
      rw [← nI_1 x] at ih
      exact ih
def pLM (h : xHp) (B : Nat) (ω : Wv) (x : Int64) : Option Value → xHp → Prop := fun v h' => v = some (.long x) ∧ isM h' B ω ∧ frm h h' B (B + 14)
theorem sp_Mo_mixedStanza {h : xHp} {B s : Nat} {ω : Wv} {b : Int64} (w : isM h B ω) (k : wok ω) (hs : s < pc (wP ω)) : SpecR g_Mo_mixedStanza [.ref B, .long b, .int (nI s)] h (pLM h B ω (dgS ω s b)) := by
  obtain ⟨F, tx, w⟩ := w
  obtain ⟨fs, hrc⟩ := bM_rc w.b
  obtain ⟨l1, m1, s1, o1⟩ := w.1
  have hn : wN ω ≤ 7 := k.1.2.1
  have hP : pok (wN ω) (wP ω) := k.1.2.2.2.2
  have hc8 := hP.1
  have q5 := (pg0.mp w.2.2.1.1).2.2.2.2.1
  have q6 := (pg0.mp w.2.2.1.1).2.2.2.2.2.1
  have es : ix (pc (wP ω)) (nI s) = some s := ix_nI hs (by omega)
  refine SpecR.of (by decide +kernel) (Nat.le_of_ble_eq_true rfl) (fun c hc => by cases hc; exact ⟨_, _, _, rfl, hrc⟩) (fun v h' z => ⟨⟨_, z.1⟩, z.2.2.1, z.2.2.2.1⟩) (fun Q hQ => ?_)
  unfold dgS at hQ
  generalize hH : fI2 (fun i => nI (pst (wP ω) s i)) (wN ω) b = H at hQ
  refine xgoal [(6, [0, 3, 4, 6]), (49, [0, 3, 4, 6])] 100 ok_Mo_mixedStanza ?_
  refine up_loop (P := fun i => xAt (h.1, h.2.1) g_Mo_mixedStanza Q 6 [(0, .ref B), (3, .int (nI s)), (4, .long (fI2 (fun i => nI (pst (wP ω) s i)) i b)), (6, .int (nI i))] [] h) (wN ω) ?_ (fun i hi ih => ?_) 0 (Nat.zero_le _)
  · refine xgoal [(6, [0, 3, 4, 6]), (49, [0, 3, 4, 6])] 100 ok_Mo_mixedStanza ?_
    refine xci (sp_Mo_size w.b) ?_
    refine pk_le (wN ω) (wN ω) (fun _ => ?_) (fun z => absurd z (by omega))
    rw [hH]
    refine up_loop (P := fun i => xAt (h.1, h.2.1) g_Mo_mixedStanza Q 49 [(0, .ref B), (3, .int (nI s)), (4, .long (fI2 (fun i => nI (plk (wP ω) s / 2 ^ i % 2)) i H)), (6, .int (nI i))] [] h) (wN ω) ?_ (fun i hi ih => ?_) 0 (Nat.zero_le _)
    · refine xgoal [(6, [0, 3, 4, 6]), (49, [0, 3, 4, 6])] 100 ok_Mo_mixedStanza ?_
      refine xci (sp_Mo_size w.b) ?_
      refine pk_le (wN ω) (wN ω) (fun _ => ?_) (fun z => absurd z (by omega))
      refine xri (sp_Mo_turningOf w k (show s < 1000 by omega)) ?_
      rintro v k2 ⟨e, w2, fr2⟩
      cases e
      have e2 : stScheme ω (nI s) = (nI (patA (snd_ ω s) (wN ω)), ω) := gdS es
      have sp := sp_Mo_scheme (s := nI s) ⟨F, tx, w2⟩ k
      rw [e2] at sp
      refine xri sp ?_
      rintro v k3 ⟨e, w3, fr3⟩
      cases e
      exact hQ _ _ ⟨rfl, w3, frm_tr (frm_wd fr2 (show B ≤ B + 3 by omega) (show B + 4 ≤ B + 14 by omega)) fr3 (Nat.le_refl _) (Nat.le_refl _)⟩
    · have hv : F (107 + (7 * s + i)) = nI (plk (wP ω) s / 2 ^ i % 2) := by rw [← Nat.add_assoc]; exact q6 s hs i hi
      refine xgoal [(6, [0, 3, 4, 6]), (49, [0, 3, 4, 6])] 100 ok_Mo_mixedStanza ?_
      refine xci (sp_Mo_size w.b) ?_
      refine pk_le (wN ω) i (fun z => absurd z (by omega)) (fun _ => ?_)
      refine xgf o1 rfl ?_
      refine xci (sp_Mo_placeOf (s := s) (i := i) w.b) ?_
      refine xal w.2.1 (nI_add 107 (7 * s + i)) (show 107 + (7 * s + i) < 1620 by omega) (by decide) ?_
      unfold fI2 at ih
      rw [← hv, ← nI_1 i] at ih
      exact ih
  · have hv : F (51 + (7 * s + i)) = nI (pst (wP ω) s i) := by rw [← Nat.add_assoc]; exact q5 s hs i hi
    refine xgoal [(6, [0, 3, 4, 6]), (49, [0, 3, 4, 6])] 100 ok_Mo_mixedStanza ?_
    refine xci (sp_Mo_size w.b) ?_
    refine pk_le (wN ω) i (fun z => absurd z (by omega)) (fun _ => ?_)
    refine xgf o1 rfl ?_
    refine xci (sp_Mo_placeOf (s := s) (i := i) w.b) ?_
    refine xal w.2.1 (nI_add 51 (7 * s + i)) (show 51 + (7 * s + i) < 1620 by omega) (by decide) ?_
    unfold fI2 at ih
    rw [← hv, ← nI_1 i] at ih
    exact ih
theorem sp_Mo_mixedTail {h : xHp} {B : Nat} {ω : Wv} {b : Int64} (w : isM h B ω) (k : wok ω) : SpecR g_Mo_mixedTail [.ref B, .long b] h (pLM h B ω (dgT ω b)) := by
  have hP : pok (wN ω) (wP ω) := k.1.2.2.2.2
  have ht4 := hP.2.2.2.1
  obtain ⟨fs, hrc⟩ := bM_rc w.choose_spec.choose_spec.b
  refine SpecR.of (by decide +kernel) (Nat.le_of_ble_eq_true rfl) (fun c hc => by cases hc; exact ⟨_, _, _, rfl, hrc⟩) (fun v h' z => ⟨⟨_, z.1⟩, z.2.2.1, z.2.2.2.1⟩) (fun Q hQ => ?_)
  unfold dgT at hQ
  generalize hH : fI2 (fun w => tlI (wN ω) (wP ω) w) 4 b = H at hQ
  refine xgoal [(5, [0, 3, 5]), (34, [0, 3, 5]), (50, [0, 3, 5, 6])] 100 ok_Mo_mixedTail ?_
  refine up_loop (P := fun i => ∀ k1 : xHp, frm h k1 B (B + 14) → isM k1 B ω → xAt (h.1, h.2.1) g_Mo_mixedTail Q 5 [(0, .ref B), (3, .long (fI2 (fun w => tlI (wN ω) (wP ω) w) i b)), (5, .int (nI i))] [] k1) 4 ?_ (fun i hi ih => ?_) 0 (Nat.zero_le _) h frm_rf w
  · intro k1 fr1 w1
    obtain ⟨F, tx, w1⟩ := w1
    obtain ⟨l1, m1, s1, o1⟩ := w1.1
    obtain ⟨-, -, -, -, -, -, q7, q8, q9⟩ := pg0.mp w1.2.2.1.1
    have q7 : F 163 = nI (ptl (wP ω)) := q7
    have q8 : ∀ l, l < ptl (wP ω) → F (164 + l) = nI (ptn (wP ω) l) := q8
    have q9 : ∀ l, l < ptl (wP ω) → ∀ k, k < ptn (wP ω) l → F (168 + 3 * l + k) = nI (ptw (wP ω) l k) := q9
    refine xgoal [(5, [0, 3, 5]), (34, [0, 3, 5]), (50, [0, 3, 5, 6])] 100 ok_Mo_mixedTail ?_
    refine pk_lt 3 4 (fun _ => ?_) (fun z => absurd z (by omega))
    rw [hH]
    refine up_loop (P := fun l => xAt (h.1, h.2.1) g_Mo_mixedTail Q 34 [(0, .ref B), (3, .long (fL2 (fun l => fI2 (fun k => nI (ptw (wP ω) l k)) (ptn (wP ω) l)) l H)), (5, .int (nI l))] [] k1) (ptl (wP ω)) ?_ (fun l hl ih => ?_) 0 (Nat.zero_le _)
    · refine xgoal [(5, [0, 3, 5]), (34, [0, 3, 5]), (50, [0, 3, 5, 6])] 100 ok_Mo_mixedTail ?_
      refine xgf o1 rfl ?_
      refine xal w1.2.1 rfl (show 163 < 1620 by omega) (by decide) ?_
      exact pk_le (ptl (wP ω)) (ptl (wP ω)) (fun _ => hQ _ _ ⟨rfl, ⟨F, tx, w1⟩, fr1⟩) (fun z => absurd z (by omega)) q7 rfl
    · have h3 := hP.2.2.2.2.1 l hl
      unfold fL2 at ih
      generalize fL2 (fun l => fI2 (fun k => nI (ptw (wP ω) l k)) (ptn (wP ω) l)) l H = G at ih ⊢
      refine xgoal [(5, [0, 3, 5]), (34, [0, 3, 5]), (50, [0, 3, 5, 6])] 100 ok_Mo_mixedTail ?_
      refine xgf o1 rfl ?_
      refine xal w1.2.1 rfl (show 163 < 1620 by omega) (by decide) ?_
      refine pk_le (ptl (wP ω)) l (fun z => absurd z (by omega)) (fun _ => ?_) q7 rfl
      refine up_loop (P := fun i => xAt (h.1, h.2.1) g_Mo_mixedTail Q 50 [(0, .ref B), (3, .long (fI2 (fun k => nI (ptw (wP ω) l k)) i G)), (5, .int (nI l)), (6, .int (nI i))] [] k1) (ptn (wP ω) l) ?_ (fun i hi ihi => ?_) 0 (Nat.zero_le _)
      · rw [← nI_1 l] at ih
        refine xgoal [(5, [0, 3, 5]), (34, [0, 3, 5]), (50, [0, 3, 5, 6])] 100 ok_Mo_mixedTail ?_
        refine xgf o1 rfl ?_
        refine xal w1.2.1 (nI_add 164 l) (show 164 + l < 1620 by omega) (by decide) ?_
        exact pk_le (ptn (wP ω) l) (ptn (wP ω) l) (fun _ => ih) (fun z => absurd z (by omega)) (q8 l hl) rfl
      · refine xgoal [(5, [0, 3, 5]), (34, [0, 3, 5]), (50, [0, 3, 5, 6])] 100 ok_Mo_mixedTail ?_
        refine xgf o1 rfl ?_
        refine xal w1.2.1 (nI_add 164 l) (show 164 + l < 1620 by omega) (by decide) ?_
        refine pk_le (ptn (wP ω) l) i (fun z => absurd z (by omega)) (fun _ => ?_) (q8 l hl) rfl
        refine xgf o1 rfl ?_
        have ei : nI 168 + nI 3 * nI l + nI i = nI (168 + 3 * l + i) := by rw [n_mul, nI_add, nI_add]
        refine xal w1.2.1 ei (show 168 + 3 * l + i < 1620 by omega) (by decide) ?_
        unfold fI2 at ihi
        rw [← q9 l hl i hi, ← nI_1 i] at ihi
        exact ihi
  · intro k1 fr1 w1
    refine xgoal [(5, [0, 3, 5]), (34, [0, 3, 5]), (50, [0, 3, 5, 6])] 100 ok_Mo_mixedTail ?_
    refine pk_lt 3 i (fun z => absurd z (by omega)) (fun _ => ?_)
    have e1 : stTail ω (nI i) = (tlI (wN ω) (wP ω) i, ω) := gdS (ix_nI hi (by omega))
    have sp := sp_Mo_tail (a := nI i) w1 k
    rw [e1] at sp
    refine xri sp ?_
    rintro v k2 ⟨e, w2, fr2⟩
    cases e
    have ih := ih k2 (frm_tr fr1 fr2 (Nat.le_refl _) (Nat.le_refl _)) w2
    unfold fI2 at ih
    rw [← nI_1 i] at ih
    exact ih
theorem sp_Mo_digest {h : xHp} {B : Nat} {ω : Wv} (w : isM h B ω) (k : wok ω) : SpecR g_Mo_digest [.ref B] h (pLM h B ω (dig ω)) := by
  obtain ⟨fs, hrc⟩ := bM_rc w.choose_spec.choose_spec.b
  have hn : wN ω ≤ 7 := k.1.2.1
  have hP : pok (wN ω) (wP ω) := k.1.2.2.2.2
  have hc8 := hP.1
  refine SpecR.of (by decide +kernel) (Nat.le_of_ble_eq_true rfl) (fun c hc => by cases hc; exact ⟨_, _, _, rfl, hrc⟩) (fun v h' z => ⟨⟨_, z.1⟩, z.2.2.1, z.2.2.2.1⟩) (fun Q hQ => ?_)
  unfold dig at hQ
  generalize h1 : fI2 (tdI ω) 6 12674 = H1 at hQ
  generalize h2 : fI2 (fun w => nI (sS ω.1 w)) (wN ω) H1 = H2 at hQ
  generalize h3 : fL2 (fun r => fI2 (fun w => nI (prp (wN ω) (wG ω r) w)) 7) 6 H2 = H3 at hQ
  generalize h4 : fL2 (dgS ω) (pc (wP ω)) H3 = H4 at hQ
  generalize h5 : fI2 (fun r => nI (flI (wN ω) (wP ω) (wG ω r))) 6 H4 = H5 at hQ
  have at135 : ∀ k1 : xHp, frm h k1 B (B + 14) → isM k1 B ω → xAt (h.1, h.2.1) g_Mo_digest Q 135 [(0, .ref B), (1, .long H4), (3, .int (nI 0))] [] k1 := by
    refine up_loop (P := fun r => ∀ k1 : xHp, frm h k1 B (B + 14) → isM k1 B ω → xAt (h.1, h.2.1) g_Mo_digest Q 135 [(0, .ref B), (1, .long (fI2 (fun r => nI (flI (wN ω) (wP ω) (wG ω r))) r H4)), (3, .int (nI r))] [] k1) 6 ?_ (fun r hr ih => ?_) 0 (Nat.zero_le _)
    · intro k1 fr1 w1
      rw [h5]
      refine xgoal [(135, [0, 1, 3])] 100 ok_Mo_digest ?_
      refine pk_le 6 6 (fun _ => ?_) (fun z => absurd z (by omega))
      refine xrl_ (sp_Mo_mixedTail w1 k) ?_
      rintro v k2 ⟨e, w2, fr2⟩
      cases e
      exact hQ _ _ ⟨rfl, w2, frm_tr fr1 fr2 (Nat.le_refl _) (Nat.le_refl _)⟩
    · intro k1 fr1 w1
      obtain ⟨F, tx, w1⟩ := w1
      unfold fI2 at ih
      refine xgoal [(135, [0, 1, 3])] 100 ok_Mo_digest ?_
      refine pk_le 6 r (fun z => absurd z (by omega)) (fun _ => ?_)
      refine xri (sp_Mo_isFollowed w1 k hr) ?_
      rintro v k2 ⟨e, w2, fr2⟩
      cases e
      have ih := ih k2 (frm_tr fr1 fr2 (by omega) (by omega)) ⟨F, tx, w2⟩
      unfold flI at ih ⊢
      by_cases c : flw (wN ω) (wP ω) (wG ω r) = true
      · rw [if_pos c, ← nI_1 r] at ih
        rw [if_pos c]
        exact pk_eq 1 0 (fun z => absurd z (by omega)) (fun _ => ih)
      · rw [if_neg c, ← nI_1 r] at ih
        rw [if_neg c]
        exact pk_eq 0 0 (fun _ => ih) (fun z => absurd rfl z)
  have at109 : ∀ k1 : xHp, frm h k1 B (B + 14) → isM k1 B ω → xAt (h.1, h.2.1) g_Mo_digest Q 109 [(0, .ref B), (1, .long H3), (3, .int (nI 0))] [] k1 := by
    refine up_loop (P := fun s => ∀ k1 : xHp, frm h k1 B (B + 14) → isM k1 B ω → xAt (h.1, h.2.1) g_Mo_digest Q 109 [(0, .ref B), (1, .long (fL2 (dgS ω) s H3)), (3, .int (nI s))] [] k1) (pc (wP ω)) ?_ (fun s hs ih => ?_) 0 (Nat.zero_le _)
    · intro k1 fr1 w1
      obtain ⟨F, tx, w1'⟩ := id w1
      obtain ⟨l1, m1, s1, o1⟩ := w1'.1
      rw [h4]
      refine xgoal [(135, [0, 1, 3])] 100 ok_Mo_digest ?_
      refine xgf o1 rfl ?_
      refine xal w1'.2.1 rfl (show 50 < 1620 by omega) (by decide) ?_
      exact pk_le (pc (wP ω)) (pc (wP ω)) (fun _ => at135 k1 fr1 w1) (fun z => absurd z (by omega)) (pg0.mp w1'.2.2.1.1).2.2.2.1 rfl
    · intro k1 fr1 w1
      obtain ⟨F, tx, w1'⟩ := id w1
      obtain ⟨l1, m1, s1, o1⟩ := w1'.1
      refine xgoal [(109, [0, 1, 3]), (135, [0, 1, 3])] 100 ok_Mo_digest ?_
      refine xgf o1 rfl ?_
      refine xal w1'.2.1 rfl (show 50 < 1620 by omega) (by decide) ?_
      refine pk_le (pc (wP ω)) s (fun z => absurd z (by omega)) (fun _ => ?_) (pg0.mp w1'.2.2.1.1).2.2.2.1 rfl
      refine xrl_ (sp_Mo_mixedStanza w1 k hs) ?_
      rintro v k2 ⟨e, w2, fr2⟩
      cases e
      have ih := ih k2 (frm_tr fr1 fr2 (Nat.le_refl _) (Nat.le_refl _)) w2
      unfold fL2 at ih
      rw [← nI_1 s] at ih
      exact ih
  have at64 : ∀ k1 : xHp, frm h k1 B (B + 14) → isM k1 B ω → xAt (h.1, h.2.1) g_Mo_digest Q 64 [(0, .ref B), (1, .long H2), (3, .int (nI 0))] [] k1 := by
    refine up_loop (P := fun r => ∀ k1 : xHp, frm h k1 B (B + 14) → isM k1 B ω → xAt (h.1, h.2.1) g_Mo_digest Q 64 [(0, .ref B), (1, .long (fL2 (fun r => fI2 (fun w => nI (prp (wN ω) (wG ω r) w)) 7) r H2)), (3, .int (nI r))] [] k1) 6 ?_ (fun r hr ih => ?_) 0 (Nat.zero_le _)
    · intro k1 fr1 w1
      rw [h3]
      refine xgoal [(109, [0, 1, 3])] 100 ok_Mo_digest ?_
      exact pk_le 6 6 (fun _ => at109 k1 fr1 w1) (fun z => absurd z (by omega))
    · intro k1 fr1 w1
      unfold fL2 at ih
      generalize fL2 (fun r => fI2 (fun w => nI (prp (wN ω) (wG ω r) w)) 7) r H2 = G at ih ⊢
      refine xgoal [(64, [0, 1, 3]), (73, [0, 1, 3, 4])] 100 ok_Mo_digest ?_
      refine pk_le 6 r (fun z => absurd z (by omega)) (fun _ => ?_)
      refine up_loop (P := fun x => ∀ k1 : xHp, frm h k1 B (B + 14) → isM k1 B ω → xAt (h.1, h.2.1) g_Mo_digest Q 73 [(0, .ref B), (1, .long (fI2 (fun w => nI (prp (wN ω) (wG ω r) w)) x G)), (3, .int (nI r)), (4, .int (nI x))] [] k1) 7 ?_ (fun x hx ihx => ?_) 0 (Nat.zero_le _) k1 fr1 w1
      · intro k1 fr1 w1
        refine xgoal [(64, [0, 1, 3]), (73, [0, 1, 3, 4])] 100 ok_Mo_digest ?_
        refine pk_lt 6 7 (fun _ => ?_) (fun z => absurd z (by omega))
        have ih := ih k1 fr1 w1
        rw [← nI_1 r] at ih
        exact ih
      · intro k1 fr1 w1
        obtain ⟨F, tx, w1⟩ := w1
        refine xgoal [(64, [0, 1, 3]), (73, [0, 1, 3, 4])] 100 ok_Mo_digest ?_
        refine pk_lt 6 x (fun z => absurd z (by omega)) (fun _ => ?_)
        refine xri (sp_Mo_turnOf w1 k hr hx) ?_
        rintro v k2 ⟨e, w2, fr2⟩
        cases e
        have ihx := ihx k2 (frm_tr fr1 fr2 (Nat.le_refl _) (Nat.le_refl _)) ⟨F, tx, w2⟩
        unfold fI2 at ihx
        rw [← nI_1 x] at ihx
        exact ihx
  have at32 : ∀ k1 : xHp, frm h k1 B (B + 14) → isM k1 B ω → xAt (h.1, h.2.1) g_Mo_digest Q 32 [(0, .ref B), (1, .long H1), (3, .int (nI 0))] [] k1 := by
    intro k1 fr1 w1
    obtain ⟨F, tx, w1'⟩ := id w1
    obtain ⟨l1, m1, s1, o1⟩ := w1'.1
    refine up_loop (P := fun i => xAt (h.1, h.2.1) g_Mo_digest Q 32 [(0, .ref B), (1, .long (fI2 (fun w => nI (sS ω.1 w)) i H1)), (3, .int (nI i))] [] k1) (wN ω) ?_ (fun i hi ih => ?_) 0 (Nat.zero_le _)
    · rw [h2]
      refine xgoal [(64, [0, 1, 3])] 100 ok_Mo_digest ?_
      refine xci (sp_Mo_size w1'.b) ?_
      exact pk_le (wN ω) (wN ω) (fun _ => at64 k1 fr1 w1) (fun z => absurd z (by omega))
    · refine xgoal [(32, [0, 1, 3]), (64, [0, 1, 3])] 100 ok_Mo_digest ?_
      refine xci (sp_Mo_size w1'.b) ?_
      refine pk_le (wN ω) i (fun z => absurd z (by omega)) (fun _ => ?_)
      refine xgf o1 rfl ?_
      refine xal w1'.2.1 (nI_add 1 i) (show 1 + i < 1620 by omega) (by decide) ?_
      unfold fI2 at ih
      rw [← (pg0.mp w1'.2.2.1.1).2.1 i hi, ← nI_1 i] at ih
      exact ih
  refine xgoal [(6, [0, 1, 3])] 100 ok_Mo_digest ?_
  refine up_loop (P := fun i => ∀ k1 : xHp, frm h k1 B (B + 14) → isM k1 B ω → xAt (h.1, h.2.1) g_Mo_digest Q 6 [(0, .ref B), (1, .long (fI2 (tdI ω) i 12674)), (3, .int (nI i))] [] k1) 6 ?_ (fun i hi ih => ?_) 0 (Nat.zero_le _) h frm_rf w
  · intro k1 fr1 w1
    rw [h1]
    refine xgoal [(32, [0, 1, 3])] 100 ok_Mo_digest ?_
    exact pk_lt 5 6 (fun _ => at32 k1 fr1 w1) (fun z => absurd z (by omega))
  · intro k1 fr1 w1
    refine xgoal [(6, [0, 1, 3]), (32, [0, 1, 3])] 100 ok_Mo_digest ?_
    refine pk_lt 5 i (fun z => absurd z (by omega)) (fun _ => ?_)
    have e1 : stTold ω (nI i) = (tdI ω i, ω) := gdS (ix_nI hi (by omega))
    have sp := sp_Mo_told (a := nI i) w1 k
    rw [e1] at sp
    refine xri sp ?_
    rintro v k2 ⟨e, w2, fr2⟩
    cases e
    have ih := ih k2 (frm_tr fr1 fr2 (Nat.le_refl _) (Nat.le_refl _)) w2
    unfold fI2 at ih
    rw [← nI_1 i] at ih
    exact ih
