/-! THE REFERENCE'S CALLS: turnings -/
theorem sp_Mo_isProper {h : xHp} {B s : Nat} {ω : Wv} {F tx : Nat → Int32} (w : isMF h B ω F tx) (k : wok ω) (hs : s < pc (wP ω)) : Spec g_Mo_isProper [.ref B, .int (nI s)] h (some (.int (nI (if prop (wN ω) (pst (wP ω) s) = true then 1 else 0)))) h := by
  obtain ⟨fs, hrc⟩ := bM_rc w.b
  have hn : wN ω ≤ 7 := k.1.2.1
  have hP : pok (wN ω) (wP ω) := k.1.2.2.2.2
  have hc8 := hP.1
  obtain ⟨l1, m1, s1, o1⟩ := w.1
  have q5 := (pg0.mp w.2.2.1.1).2.2.2.2.1
  refine Spec.of (by decide +kernel) (Nat.le_of_ble_eq_true rfl) ⟨_, rfl⟩ rfl rfl (fun c hc => by cases hc; exact ⟨_, _, _, rfl, hrc⟩) (fun Q hQ => ?_)
  refine xgoal [(4, [0, 1, 2, 3])] 100 ok_Mo_isProper ?_
  refine up_loop (P := fun i => xAt (h.1, h.2.1) g_Mo_isProper Q 4 [(0, .ref B), (1, .int (nI s)), (2, .int (nI (bms (pst (wP ω) s) i))), (3, .int (nI i))] [] h) (wN ω) ?_ (fun i hi ih => ?_) 0 (Nat.zero_le _)
  · have hb : bms (pst (wP ω) s) (wN ω) < 2 ^ wN ω := bms_lt (hP.2.1 s hs)
    have h7 : 2 ^ wN ω ≤ 2 ^ 7 := Nat.pow_le_pow_right (n := 2) (by omega) (show wN ω ≤ 7 from hn)
    have hpos : 0 < 2 ^ wN ω := Nat.two_pow_pos _
    refine xgoal [(4, [0, 1, 2, 3])] 100 ok_Mo_isProper ?_
    refine xci (sp_Mo_size w.b) ?_
    refine pk_le (wN ω) (wN ω) (fun _ => ?_) (fun z => absurd z (by omega))
    refine xci (sp_Mo_size w.b) ?_
    have e1 : (nI 1 <<< (nI (wN ω) &&& 31)) - nI 1 = nI (2 ^ wN ω - 1) := by rw [n_shl _ _ (by omega), Nat.one_mul, pk_sub (by omega)]
    refine pk_eq (bms (pst (wP ω) s) (wN ω)) (2 ^ wN ω - 1) (fun c => ?_) (fun c => ?_) rfl e1
    · rw [if_pos (show prop (wN ω) (pst (wP ω) s) = true from decide_eq_true c)] at hQ
      exact ⟨Or.inr rfl, hQ⟩
    · rw [if_neg (show ¬ prop (wN ω) (pst (wP ω) s) = true from fun z => c (of_decide_eq_true z))] at hQ
      exact ⟨Or.inl rfl, hQ⟩
  · have hx := hP.2.1 s hs i hi
    refine xgoal [(4, [0, 1, 2, 3])] 100 ok_Mo_isProper ?_
    refine xci (sp_Mo_size w.b) ?_
    refine pk_le (wN ω) i (fun z => absurd z (by omega)) (fun _ => ?_)
    refine xgf o1 rfl ?_
    refine xci (sp_Mo_placeOf (s := s) (i := i) w.b) ?_
    refine xal w.2.1 (nI_add 51 (7 * s + i)) (show 51 + (7 * s + i) < 1620 by omega) (by decide) ?_
    have hv : F (51 + (7 * s + i)) = nI (pst (wP ω) s i) := by rw [← Nat.add_assoc]; exact q5 s hs i hi
    rw [show bms (pst (wP ω) s) (i + 1) = bms (pst (wP ω) s) i ||| 2 ^ pst (wP ω) s i from rfl, ← n_or, ← Nat.one_mul (2 ^ pst (wP ω) s i), ← n_shl _ _ (show pst (wP ω) s i < 32 by omega), ← hv, ← nI_1 i] at ih
    exact ih
theorem sp_Mo_proper {h : xHp} {B : Nat} {ω : Wv} {s : Int32} (w : isM h B ω) (k : wok ω) : SpecR g_Mo_proper [.ref B, .int s] h (pM h B (stProper ω s)) := by
  obtain ⟨F, tx, w⟩ := w
  obtain ⟨fs, hrc⟩ := bM_rc w.b
  refine SpecR.of (by decide +kernel) (Nat.le_of_ble_eq_true rfl) (fun c hc => by cases hc; exact ⟨_, _, _, rfl, hrc⟩) (fun v h' z => ⟨⟨_, z.1⟩, z.2.2.1, z.2.2.2.1⟩) (fun Q hQ => ?_)
  generalize hO : stProper ω s = o at hQ
  unfold stProper at hO
  have bad : ∀ c, (c, ω) = o → Q (some (.int c)) h := fun c e => by subst e; exact hQ _ _ ⟨rfl, ⟨F, tx, w⟩, frm_rf⟩
  have fin : ∀ (v : Int32) (ω' : Wv) (h' : xHp) (F' tx' : Nat → Int32), (v, ω') = o → isMF h' B ω' F' tx' → frm h h' B (B + 14) → Q (some (.int v)) h' := fun v ω' h' F' tx' e w' f => by subst e; exact hQ _ _ ⟨rfl, ⟨F', tx', w'⟩, f⟩
  have hn1 : 2 ≤ wN ω := k.1.1
  have hn : wN ω ≤ 7 := k.1.2.1
  have hS : ∀ i, i < wN ω → sS ω.1 i < 4 := k.1.2.2.1
  have hG : ∀ r, r < 6 → PM (wN ω) (wG ω r) := k.1.2.2.2.1
  have hP : pok (wN ω) (wP ω) := k.1.2.2.2.2
  refine xgoal [] 100 ok_Mo_proper ?_
  have hc8 := hP.1
  have p0 := pg0.mp w.2.2.1.1
  refine xci (sp_Mo_isStanza (p := pc (wP ω)) s w.b p0.2.2.2.1 hc8) ?_
  refine gdX (fun z => ?_) (fun a ha e hlt => ?_)
  · rw [gdN z] at hO; exact bad _ hO
  subst e
  rw [gdS ha] at hO
  refine xci (sp_Mo_isProper w k hlt) ?_
  by_cases c : prop (wN ω) (pst (wP ω) a) = true
  · rw [if_pos c] at hO
    exact pk_eq 1 0 (fun z => absurd z (by omega)) (fun _ => fin _ _ _ _ tx hO w frm_rf) (by rw [if_pos c]) rfl
  · rw [if_neg c] at hO
    exact pk_eq 0 0 (fun _ => fin _ _ _ _ tx hO w frm_rf) (fun z => absurd rfl z) (by rw [if_neg c]) rfl
theorem sp_Mo_turns {h : xHp} {B s : Nat} {ω : Wv} {F tx : Nat → Int32} (w : isMF h B ω F tx) (k : wok ω) (ht : tbh (wN ω) (wP ω) s = true) : SpecR g_Mo_turns [.ref B, .int (nI s)] h (fun v h' => v = none ∧ isMF h' B ω F tx ∧ isRw h' (B + 3) (wN ω) (tbp (wN ω) (wP ω) s) ∧ frm h h' (B + 3) (B + 4)) := by
  obtain ⟨fs, hrc⟩ := bM_rc w.b
  have hn : wN ω ≤ 7 := k.1.2.1
  have hP : pok (wN ω) (wP ω) := k.1.2.2.2.2
  have hc8 := hP.1
  have q5 := (pg0.mp w.2.2.1.1).2.2.2.2.1
  have hs : s + 1 < pc (wP ω) := by
    unfold tbh at ht
    rw [Bool.and_eq_true, decide_eq_true_eq] at ht
    exact ht.1
  obtain ⟨p1, p2, p3⟩ := tbp_PM hP ht
  refine SpecR.of (by decide +kernel) (Nat.le_of_ble_eq_true rfl) (fun c hc => by cases hc; exact ⟨_, _, _, rfl, hrc⟩) (fun v h' z => ⟨z.1, z.2.2.2.1, z.2.2.2.2.1⟩) (fun Q hQ => ?_)
  refine xgoal [(2, [0, 1, 2])] 100 ok_Mo_turns ?_
  obtain ⟨u0, u01⟩ := w.2.2.2.2 3 (by omega) (by omega)
  refine up_loop (P := fun i => ∀ (k1 : xHp) (u : Nat → Int32), frm h k1 (B + 3) (B + 4) → xat k1 (B + 3) (xia 7 u) → (∀ j, j < i → u j = nI (tbp (wN ω) (wP ω) s j)) → xAt (h.1, h.2.1) g_Mo_turns Q 2 [(0, .ref B), (1, .int (nI s)), (2, .int (nI i))] [] k1) (wN ω) ?_ (fun i hi ih => ?_) 0 (Nat.zero_le _) h u0 frm_rf u01 (fun j hj => absurd hj (Nat.not_lt_zero j))
  · intro k1 u fr1 g1 e1
    have w1 := w.sc (c := 3) fr1 (by omega) ⟨u, g1⟩
    refine xgoal [(2, [0, 1, 2])] 100 ok_Mo_turns ?_
    refine xci (sp_Mo_size w1.b) ?_
    refine pk_le (wN ω) (wN ω) (fun _ => ?_) (fun z => absurd z (by omega))
    exact hQ _ _ ⟨rfl, w1, ⟨u, g1, e1⟩, fr1⟩
  · intro k1 u fr1 g1 e1
    have w1 := w.sc (c := 3) fr1 (by omega) ⟨u, g1⟩
    refine xgoal [(2, [0, 1, 2]), (12, [0, 1, 2, 3])] 100 ok_Mo_turns ?_
    refine xci (sp_Mo_size w1.b) ?_
    refine pk_le (wN ω) i (fun z => absurd z (by omega)) (fun _ => ?_)
    refine up_loop (P := fun x => ∀ (k2 : xHp) (u2 : Nat → Int32), frm h k2 (B + 3) (B + 4) → xat k2 (B + 3) (xia 7 u2) → (∀ j, j < i → u2 j = nI (tbp (wN ω) (wP ω) s j)) → (tbp (wN ω) (wP ω) s i < x → u2 i = nI (tbp (wN ω) (wP ω) s i)) → xAt (h.1, h.2.1) g_Mo_turns Q 12 [(0, .ref B), (1, .int (nI s)), (2, .int (nI i)), (3, .int (nI x))] [] k2) (wN ω) ?_ (fun x hx ih2 => ?_) 0 (Nat.zero_le _) k1 u fr1 g1 e1 (fun z => absurd z (Nat.not_lt_zero _))
    · intro k2 u2 fr2 g2 e2 e3
      have w2 := w.sc (c := 3) fr2 (by omega) ⟨u2, g2⟩
      refine xgoal [(2, [0, 1, 2]), (12, [0, 1, 2, 3])] 100 ok_Mo_turns ?_
      refine xci (sp_Mo_size w2.b) ?_
      refine pk_le (wN ω) (wN ω) (fun _ => ?_) (fun z => absurd z (by omega))
      have ih := ih k2 u2 fr2 g2 (fun j hj => by
        by_cases e : j = i
        · rw [e]; exact e3 (p3.1 i hi)
        · exact e2 j (by omega))
      rw [← nI_1 i] at ih
      exact ih
    · intro k2 u2 fr2 g2 e2 e3
      have w2 := w.sc (c := 3) fr2 (by omega) ⟨u2, g2⟩
      obtain ⟨l2, m2, s2, o2⟩ := w2.1
      have a1 := p1.1 x hx
      have a2 := p2.1 i hi
      have hv1 : F (51 + (7 * s + x)) = nI (pst (wP ω) s x) := by rw [← Nat.add_assoc]; exact q5 s (show s < pc (wP ω) by omega) x hx
      have hv2 : F (51 + (7 * (s + 1) + i)) = nI (pst (wP ω) (s + 1) i) := by rw [← Nat.add_assoc]; exact q5 (s + 1) hs i hi
      have go : ∀ v, (pst (wP ω) s x = pst (wP ω) (s + 1) i → v = nI x) → (pst (wP ω) s x ≠ pst (wP ω) (s + 1) i → v = u2 i) → xAt (h.1, h.2.1) g_Mo_turns Q 12 [(0, .ref B), (1, .int (nI s)), (2, .int (nI i)), (3, .int (nI x + 1))] [] (xset k2 (B + 3) (xia 7 (upd u2 i v))) := by
        intro v v1 v2
        have ih2 := ih2 (xset k2 (B + 3) (xia 7 (upd u2 i v))) _ (frm_set fr2 (by omega) (by omega)) (xat_sf g2.1) (fun j hj => by unfold upd; rw [if_neg (by omega)]; exact e2 j hj) (fun hlt => by
          unfold upd
          rw [if_pos rfl]
          have hg := get_inv p1 a2
          by_cases e : pst (wP ω) s x = pst (wP ω) (s + 1) i
          · have ex : x = tbp (wN ω) (wP ω) s i := p1.2 x _ hx hg.1 (e.trans hg.2.symm)
            rw [v1 e, ← ex]
          · rw [v2 e]
            refine e3 ?_
            refine Nat.lt_of_le_of_ne (Nat.le_of_lt_succ hlt) (fun z => e ?_)
            rw [← z]
            exact hg.2)
        rw [← nI_1 x] at ih2
        exact ih2
      refine xgoal [(2, [0, 1, 2]), (12, [0, 1, 2, 3])] 100 ok_Mo_turns ?_
      refine xci (sp_Mo_size w2.b) ?_
      refine pk_le (wN ω) x (fun z => absurd z (by omega)) (fun _ => ?_)
      refine xgf o2 rfl ?_
      refine xgf o2 rfl ?_
      refine xci (sp_Mo_placeOf (s := s) (i := x) w2.b) ?_
      refine xal w2.2.1 (nI_add 51 (7 * s + x)) (show 51 + (7 * s + x) < 1620 by omega) (by decide) ?_
      refine xgf o2 rfl ?_
      have sp := sp_Mo_placeOf (s := s + 1) (i := i) w2.b
      rw [← nI_add s 1] at sp
      refine xci sp ?_
      refine xal w2.2.1 (nI_add 51 (7 * (s + 1) + i)) (show 51 + (7 * (s + 1) + i) < 1620 by omega) (by decide) ?_
      refine pk_eq (pst (wP ω) s x) (pst (wP ω) (s + 1) i) (fun c => ?_) (fun c => ?_) hv1 hv2
      · refine xal g2 rfl (show i < 7 by omega) (by decide) ?_
        exact go _ (fun _ => rfl) (fun z => absurd c z)
      · refine xgf o2 rfl ?_
        refine xal g2 rfl (show i < 7 by omega) (by decide) ?_
        refine xal g2 rfl (show i < 7 by omega) (by decide) ?_
        exact go _ (fun z => absurd z c) (fun _ => rfl)
theorem sp_Mo_turningOf {h : xHp} {B s : Nat} {ω : Wv} {F tx : Nat → Int32} (w : isMF h B ω F tx) (k : wok ω) (hs8 : s < 1000) : SpecR g_Mo_turningOf [.ref B, .int (nI s)] h (fun v h' => v = some (.int (tbI (wN ω) (wP ω) s)) ∧ isMF h' B ω F tx ∧ frm h h' (B + 3) (B + 4)) := by
  obtain ⟨fs, hrc⟩ := bM_rc w.b
  have hn : wN ω ≤ 7 := k.1.2.1
  have hP : pok (wN ω) (wP ω) := k.1.2.2.2.2
  have hc8 := hP.1
  have q4 := (pg0.mp w.2.2.1.1).2.2.2.1
  obtain ⟨l1, m1, s1, o1⟩ := w.1
  refine SpecR.of (by decide +kernel) (Nat.le_of_ble_eq_true rfl) (fun c hc => by cases hc; exact ⟨_, _, _, rfl, hrc⟩) (fun v h' z => ⟨⟨_, z.1⟩, z.2.2.1, z.2.2.2.1⟩) (fun Q hQ => ?_)
  refine xgoal [] 100 ok_Mo_turningOf ?_
  have no : tbh (wN ω) (wP ω) s = false → Q (some (.int (-9))) h := fun z => hQ _ _ ⟨by unfold tbI; rw [z, if_neg (by decide)], w, frm_rf⟩
  have e1 : nI s + nI 1 = nI (s + 1) := nI_add s 1
  refine xgf o1 rfl ?_
  refine xal w.2.1 rfl (show 50 < 1620 by omega) (by decide) ?_
  refine pk_le (pc (wP ω)) (s + 1) (fun c => ?_) (fun c => ?_) q4 e1
  · exact no (by unfold tbh; rw [decide_eq_false (by omega)]; rfl)
  refine xci (sp_Mo_isProper w k (s := s) (by omega)) ?_
  by_cases c1 : prop (wN ω) (pst (wP ω) s) = true
  · refine pk_eq 1 0 (fun z => absurd z (by omega)) (fun _ => ?_) (by rw [if_pos c1]) rfl
    have sp := sp_Mo_isProper w k (s := s + 1) c
    rw [← nI_add s 1] at sp
    refine xci sp ?_
    by_cases c2 : prop (wN ω) (pst (wP ω) (s + 1)) = true
    · refine pk_eq 1 0 (fun z => absurd z (by omega)) (fun _ => ?_) (by rw [if_pos c2]) rfl
      have ht : tbh (wN ω) (wP ω) s = true := by unfold tbh; rw [c1, c2, decide_eq_true c]; rfl
      refine xrv (sp_Mo_turns w k ht) ?_
      rintro h2 ⟨-, w2, r2, fr2⟩
      obtain ⟨l2, m2, s2, o2⟩ := w2.1
      refine xgf o2 rfl ?_
      refine xci (sp_Mo_rank w2.b hn r2 (PM8 hn (tbp_PM hP ht).2.2)) ?_
      exact hQ _ _ ⟨by unfold tbI; rw [if_pos ht], w2, fr2⟩
    · refine pk_eq 0 0 (fun _ => ?_) (fun z => absurd rfl z) (by rw [if_neg c2]) rfl
      exact no (by unfold tbh; simp [c2])
  · refine pk_eq 0 0 (fun _ => ?_) (fun z => absurd rfl z) (by rw [if_neg c1]) rfl
    exact no (by unfold tbh; simp [c1])
theorem sp_Mo_turning {h : xHp} {B : Nat} {ω : Wv} {s : Int32} (w : isM h B ω) (k : wok ω) : SpecR g_Mo_turning [.ref B, .int s] h (pM h B (stTurning ω s)) := by
  obtain ⟨F, tx, w⟩ := w
  obtain ⟨fs, hrc⟩ := bM_rc w.b
  refine SpecR.of (by decide +kernel) (Nat.le_of_ble_eq_true rfl) (fun c hc => by cases hc; exact ⟨_, _, _, rfl, hrc⟩) (fun v h' z => ⟨⟨_, z.1⟩, z.2.2.1, z.2.2.2.1⟩) (fun Q hQ => ?_)
  generalize hO : stTurning ω s = o at hQ
  unfold stTurning at hO
  have bad : ∀ c, (c, ω) = o → Q (some (.int c)) h := fun c e => by subst e; exact hQ _ _ ⟨rfl, ⟨F, tx, w⟩, frm_rf⟩
  have fin : ∀ (v : Int32) (ω' : Wv) (h' : xHp) (F' tx' : Nat → Int32), (v, ω') = o → isMF h' B ω' F' tx' → frm h h' B (B + 14) → Q (some (.int v)) h' := fun v ω' h' F' tx' e w' f => by subst e; exact hQ _ _ ⟨rfl, ⟨F', tx', w'⟩, f⟩
  have hn1 : 2 ≤ wN ω := k.1.1
  have hn : wN ω ≤ 7 := k.1.2.1
  have hS : ∀ i, i < wN ω → sS ω.1 i < 4 := k.1.2.2.1
  have hG : ∀ r, r < 6 → PM (wN ω) (wG ω r) := k.1.2.2.2.1
  have hP : pok (wN ω) (wP ω) := k.1.2.2.2.2
  refine xgoal [] 100 ok_Mo_turning ?_
  have hc8 := hP.1
  have p0 := pg0.mp w.2.2.1.1
  refine xci (sp_Mo_isStanza (p := pc (wP ω)) s w.b p0.2.2.2.1 hc8) ?_
  refine gdX (fun z => ?_) (fun a ha e hlt => ?_)
  · rw [gdN z] at hO; exact bad _ hO
  subst e
  rw [gdS ha] at hO
  refine xri (sp_Mo_turningOf w k (show a < 1000 by omega)) ?_
  rintro v h1 ⟨e, w1, fr1⟩
  cases e
  exact fin _ _ _ _ tx hO w1 (frm_wd fr1 (by omega) (by omega))
def foA (n : Nat) (p : Pv) : Nat → Int32
  | 0 => tbI n p 0
  | t + 1 => if tbI n p (t + 1) = foA n p t then foA n p t else -9
theorem foA_ok {n : Nat} {p : Pv} : ∀ t, foA n p t = -9 ∨ (foA n p t = tbI n p 0 ∧ ∀ s, s ≤ t → tbI n p s = tbI n p 0)
  | 0 => Or.inr ⟨rfl, fun s hs => by rw [Nat.le_zero.mp hs]⟩
  | t + 1 => by
    unfold foA
    split
    · rename_i e
      rcases foA_ok (n := n) (p := p) t with z | ⟨z1, z2⟩
      · exact Or.inl z
      · refine Or.inr ⟨z1, fun s hs => ?_⟩
        by_cases c : s = t + 1
        · rw [c, e, z1]
        · exact z2 s (by omega)
    · exact Or.inl rfl
theorem foA_to {n : Nat} {p : Pv} : ∀ t, (∀ s, s ≤ t → tbI n p s = tbI n p 0) → foA n p t = tbI n p 0
  | 0, _ => rfl
  | t + 1, h => by
    have ih := foA_to t (fun s hs => h s (by omega))
    unfold foA
    rw [ih, if_pos (h _ (Nat.le_refl _))]
theorem tbI_h {n s : Nat} {p : Pv} (hn : n ≤ 7) : tbI n p s ≠ -9 ↔ tbh n p s = true := by
  unfold tbI
  have h5 := fct_le hn
  by_cases c : tbh n p s = true
  · have := rank_lt n (tbp n p s)
    rw [if_pos c]
    exact ⟨fun _ => c, fun _ => nI_m9 (by omega)⟩
  · rw [if_neg c]
    exact ⟨fun z => absurd rfl z, fun z => absurd z c⟩
theorem flw_iff {n : Nat} {p : Pv} {f : Nat → Nat} (hn : n ≤ 7) (hk : pok n p) (hf : PM n f) (h2 : 2 ≤ pc p) : flw n p f = true ↔ ∀ s, s + 1 < pc p → tbI n p s = nI (rank n f) := by
  have h5 := fct_le hn
  have hr := rank_lt n f
  unfold flw
  rw [decide_eq_true_eq]
  constructor
  · rintro ⟨z1, z2⟩ s hs
    have ht : tbh n p s = true := by unfold tbh; rw [decide_eq_true hs, z1 s (by omega), z1 (s + 1) hs]; rfl
    obtain ⟨p1, p2, p3⟩ := tbp_PM hk ht
    unfold tbI
    rw [if_pos ht]
    congr 1
    refine rank_congr fun i hi => ?_
    show inv n (pst p s) (pst p (s + 1) i) = f i
    rw [z2 s (by omega) i hi]
    exact inv_get p1 (hf.1 i hi)
  · intro z
    have hth : ∀ s, s + 1 < pc p → tbh n p s = true := fun s hs => (tbI_h hn).mp (by rw [z s hs]; exact nI_m9 (by omega))
    refine ⟨fun s hs => ?_, fun s hs i hi => ?_⟩
    · by_cases c : s + 1 < pc p
      · have := hth s c
        unfold tbh at this
        rw [Bool.and_eq_true, Bool.and_eq_true] at this
        exact this.2.1
      · have := hth (s - 1) (by omega)
        unfold tbh at this
        rw [Bool.and_eq_true, Bool.and_eq_true, show s - 1 + 1 = s by omega] at this
        exact this.2.2
    · have hs : s + 1 < pc p := by omega
      obtain ⟨p1, p2, p3⟩ := tbp_PM hk (hth s hs)
      have e := z s hs
      unfold tbI at e
      rw [if_pos (hth s hs)] at e
      have hr2 := rank_lt n (tbp n p s)
      have e2 := rank_inj p3 hf ((nI_eq (by omega) (by omega)).mp e) i hi
      rw [← e2]
      exact (get_inv p1 (p2.1 i hi)).2.symm
theorem foA_flw {n : Nat} {p : Pv} {f : Nat → Nat} (hn : n ≤ 7) (hk : pok n p) (hf : PM n f) (h2 : 2 ≤ pc p) : flw n p f = true ↔ foA n p (pc p - 2) = nI (rank n f) := by
  have h5 := fct_le hn
  have hr := rank_lt n f
  rw [flw_iff hn hk hf h2]
  constructor
  · intro z
    rw [foA_to _ (fun s hs => by rw [z s (by omega), z 0 (by omega)])]
    exact z 0 (by omega)
  · intro e s hs
    rcases foA_ok (n := n) (p := p) (pc p - 2) with c | ⟨c1, c2⟩
    · rw [e] at c; exact absurd c (nI_m9 (by omega))
    · rw [c2 s (by omega), ← c1]; exact e
theorem sp_Mo_followed {h : xHp} {B : Nat} {ω : Wv} {F tx : Nat → Int32} (w : isMF h B ω F tx) (k : wok ω) : SpecR g_Mo_followed [.ref B] h (fun v h' => v = some (.int (foA (wN ω) (wP ω) (pc (wP ω) - 2))) ∧ isMF h' B ω F tx ∧ frm h h' (B + 3) (B + 4)) := by
  obtain ⟨fs, hrc⟩ := bM_rc w.b
  have hn : wN ω ≤ 7 := k.1.2.1
  have hP : pok (wN ω) (wP ω) := k.1.2.2.2.2
  have hc8 := hP.1
  have q4 := (pg0.mp w.2.2.1.1).2.2.2.1
  refine SpecR.of (by decide +kernel) (Nat.le_of_ble_eq_true rfl) (fun c hc => by cases hc; exact ⟨_, _, _, rfl, hrc⟩) (fun v h' z => ⟨⟨_, z.1⟩, z.2.2.1, z.2.2.2.1⟩) (fun Q hQ => ?_)
  refine xgoal [(8, [0, 1, 2])] 100 ok_Mo_followed ?_
  refine xri (sp_Mo_turningOf w k (s := 0) (by omega)) ?_
  rintro v h1 ⟨e, w1, fr1⟩
  cases e
  refine up_loop (P := fun t => ∀ k1, isMF k1 B ω F tx → frm h k1 (B + 3) (B + 4) → xAt (h.1, h.2.1) g_Mo_followed Q 8 [(0, .ref B), (1, .int (foA (wN ω) (wP ω) t)), (2, .int (nI (t + 1)))] [] k1) (pc (wP ω) - 2) (fun k1 w1 fr1 => ?_) (fun t ht ih k1 w1 fr1 => ?_) 0 (Nat.zero_le _) h1 w1 fr1
  · obtain ⟨l1, m1, s1, o1⟩ := w1.1
    refine xgoal [(8, [0, 1, 2])] 100 ok_Mo_followed ?_
    refine xgf o1 rfl ?_
    refine xal w1.2.1 rfl (show 50 < 1620 by omega) (by decide) ?_
    refine pk_le (pc (wP ω)) (pc (wP ω) - 2 + 1 + 1) (fun _ => hQ _ _ ⟨rfl, w1, fr1⟩) (fun z => absurd z (by omega)) q4 (nI_add _ 1)
  · obtain ⟨l1, m1, s1, o1⟩ := w1.1
    refine xgoal [(8, [0, 1, 2])] 100 ok_Mo_followed ?_
    refine xgf o1 rfl ?_
    refine xal w1.2.1 rfl (show 50 < 1620 by omega) (by decide) ?_
    refine pk_le (pc (wP ω)) (t + 1 + 1) (fun z => absurd z (by omega)) (fun _ => ?_) q4 (nI_add _ 1)
    refine xri (sp_Mo_turningOf w1 k (s := t + 1) (by omega)) ?_
    rintro v h2 ⟨e, w2, fr2⟩
    cases e
    have ih := ih h2 w2 (frm_tr fr1 fr2 (Nat.le_refl _) (Nat.le_refl _))
    unfold foA at ih
    rw [← nI_1 (t + 1)] at ih
    refine And.intro (fun z => ?_) (fun z => ?_)
    · rw [if_pos z] at ih; exact ih
    · rw [if_neg z] at ih; exact ih
theorem sp_Mo_common {h : xHp} {B : Nat} {ω : Wv} {r : Int32} (w : isM h B ω) (k : wok ω) : SpecR g_Mo_common [.ref B, .int r] h (pM h B (stCommon ω r)) := by
  obtain ⟨F, tx, w⟩ := w
  obtain ⟨fs, hrc⟩ := bM_rc w.b
  refine SpecR.of (by decide +kernel) (Nat.le_of_ble_eq_true rfl) (fun c hc => by cases hc; exact ⟨_, _, _, rfl, hrc⟩) (fun v h' z => ⟨⟨_, z.1⟩, z.2.2.1, z.2.2.2.1⟩) (fun Q hQ => ?_)
  generalize hO : stCommon ω r = o at hQ
  unfold stCommon at hO
  have bad : ∀ c, (c, ω) = o → Q (some (.int c)) h := fun c e => by subst e; exact hQ _ _ ⟨rfl, ⟨F, tx, w⟩, frm_rf⟩
  have fin : ∀ (v : Int32) (ω' : Wv) (h' : xHp) (F' tx' : Nat → Int32), (v, ω') = o → isMF h' B ω' F' tx' → frm h h' B (B + 14) → Q (some (.int v)) h' := fun v ω' h' F' tx' e w' f => by subst e; exact hQ _ _ ⟨rfl, ⟨F', tx', w'⟩, f⟩
  have hn1 : 2 ≤ wN ω := k.1.1
  have hn : wN ω ≤ 7 := k.1.2.1
  have hS : ∀ i, i < wN ω → sS ω.1 i < 4 := k.1.2.2.1
  have hG : ∀ r, r < 6 → PM (wN ω) (wG ω r) := k.1.2.2.2.1
  have hP : pok (wN ω) (wP ω) := k.1.2.2.2.2
  refine xgoal [] 100 ok_Mo_common ?_
  refine xci (sp_Mo_isRegister r h) ?_
  refine gdX (fun z => ?_) (fun q hq e hlt => ?_)
  · rw [gdN z] at hO; exact bad _ hO
  subst e
  rw [gdS hq] at hO
  have hc8 := hP.1
  have h5 := fct_le hn
  refine xrec w k (fun h1 F1 w1 hF1 fr1 => ?_)
  refine xri (sp_Mo_followed w1 (rcd_ok k)) ?_
  rintro v h2 ⟨e, w2, fr2⟩
  have e : some (Value.int v) = some (Value.int (foA (wN ω) (wP ω) (pc (wP ω) - 2))) := e
  cases e
  have fr12 := frm_tr fr1 fr2 (by omega) (by omega)
  have key : (tbh (wN ω) (wP ω) 0 = true ∧ flw (wN ω) (wP ω) (tbp (wN ω) (wP ω) 0) = true) ↔ foA (wN ω) (wP ω) (pc (wP ω) - 2) ≠ -9 := by
    constructor
    · rintro ⟨z1, z2⟩
      have h2 : 2 ≤ pc (wP ω) := by
        have := z1
        unfold tbh at this
        rw [Bool.and_eq_true, decide_eq_true_eq] at this
        omega
      have hpm := (tbp_PM hP z1).2.2
      rw [(foA_flw hn hP hpm h2).mp z2]
      have := rank_lt (wN ω) (tbp (wN ω) (wP ω) 0)
      exact nI_m9 (by omega)
    · intro z
      rcases foA_ok (n := wN ω) (p := wP ω) (pc (wP ω) - 2) with c | ⟨c1, c2⟩
      · exact absurd c z
      · have z1 : tbh (wN ω) (wP ω) 0 = true := (tbI_h hn).mp (by rw [← c1]; exact z)
        have h2 : 2 ≤ pc (wP ω) := by
          have := z1
          unfold tbh at this
          rw [Bool.and_eq_true, decide_eq_true_eq] at this
          omega
        refine ⟨z1, (foA_flw hn hP (tbp_PM hP z1).2.2 h2).mpr ?_⟩
        rw [c1]
        unfold tbI
        rw [if_pos z1]
  refine And.intro (fun z => ?_) (fun z => ?_)
  · rw [if_neg (fun y => key.mp y z)] at hO
    exact fin _ _ _ _ tx (by rw [z]; exact hO) w2 fr12
  · have ky := key.mpr z
    have z1 := ky.1
    rw [if_pos ky] at hO
    have hpm := (tbp_PM hP z1).2.2
    have er : foA (wN ω) (wP ω) (pc (wP ω) - 2) = nI (rank (wN ω) (tbp (wN ω) (wP ω) 0)) := by
      rcases foA_ok (n := wN ω) (p := wP ω) (pc (wP ω) - 2) with c | ⟨c1, c2⟩
      · exact absurd c z
      · rw [c1]; unfold tbI; rw [if_pos z1]
    have hr := rank_lt (wN ω) (tbp (wN ω) (wP ω) 0)
    obtain ⟨l2, m2, s2, o2⟩ := w2.1
    rw [er]
    refine xgf o2 rfl ?_
    refine xunr w2 (rcd_ok k) (x := rank (wN ω) (tbp (wN ω) (wP ω) 0)) (by omega) (c := 3) (by omega) (by omega) (fun h3 w3 r3 fr3 => ?_)
    obtain ⟨l3, m3, s3, o3⟩ := w3.1
    refine xgf o3 rfl ?_
    have r3' : isRw h3 (B + 3) (wN ω) (tbp (wN ω) (wP ω) 0) := r3.congr (unr_rank hpm)
    refine xputs w3 (rcd_ok k) hlt r3' (by omega) (fun h4 F4 w4 fr4 => ?_)
    exact fin _ _ _ _ tx hO w4 (frm_tr (frm_tr fr12 fr3 (by omega) (by omega)) fr4 (by omega) (by omega))
theorem sp_Mo_isFollowed {h : xHp} {B r : Nat} {ω : Wv} {F tx : Nat → Int32} (w : isMF h B ω F tx) (k : wok ω) (hr : r < 6) : SpecR g_Mo_isFollowed [.ref B, .int (nI r)] h (fun v h' => v = some (.int (nI (flI (wN ω) (wP ω) (wG ω r)))) ∧ isMF h' B ω F tx ∧ frm h h' (B + 3) (B + 5)) := by
  obtain ⟨fs, hrc⟩ := bM_rc w.b
  have hn : wN ω ≤ 7 := k.1.2.1
  have hG : ∀ r, r < 6 → PM (wN ω) (wG ω r) := k.1.2.2.2.1
  have hP : pok (wN ω) (wP ω) := k.1.2.2.2.2
  have hc8 := hP.1
  have h5 := fct_le hn
  have hrk := rank_lt (wN ω) (wG ω r)
  have q4 := (pg0.mp w.2.2.1.1).2.2.2.1
  obtain ⟨l1, m1, s1, o1⟩ := w.1
  refine SpecR.of (by decide +kernel) (Nat.le_of_ble_eq_true rfl) (fun c hc => by cases hc; exact ⟨_, _, _, rfl, hrc⟩) (fun v h' z => ⟨⟨_, z.1⟩, z.2.2.1, z.2.2.2.1⟩) (fun Q hQ => ?_)
  unfold flI at hQ
  refine xgoal [] 100 ok_Mo_isFollowed ?_
  refine xgf o1 rfl ?_
  refine xal w.2.1 rfl (show 50 < 1620 by omega) (by decide) ?_
  refine pk_le 2 (pc (wP ω)) (fun c => ?_) (fun c => ?_) rfl q4
  · refine xgf o1 rfl ?_
    refine xtakes w hn hr (c := 4) (by omega) (by omega) (fun h2 w2 r2 fr2 => ?_)
    refine xri (sp_Mo_followed w2 k) ?_
    rintro v h3 ⟨e, w3, fr3⟩
    cases e
    obtain ⟨l3, m3, s3, o3⟩ := w3.1
    refine xgf o3 rfl ?_
    refine xci (sp_Mo_rank w3.b hn (r2.fr fr3 (by omega)) (PM8 hn (hG r hr))) ?_
    have fr23 : frm h h3 (B + 3) (B + 5) := frm_tr (frm_wd fr2 (by omega) (by omega)) (frm_wd fr3 (by omega) (by omega)) (Nat.le_refl _) (Nat.le_refl _)
    have key := foA_flw hn hP (hG r hr) c
    refine And.intro (fun z => ?_) (fun z => ?_)
    · rw [if_pos (key.mpr z)] at hQ
      exact ⟨Or.inr rfl, hQ _ _ ⟨rfl, w3, fr23⟩⟩
    · rw [if_neg (fun y => z (key.mp y))] at hQ
      exact ⟨Or.inl rfl, hQ _ _ ⟨rfl, w3, fr23⟩⟩
  · refine xgf o1 rfl ?_
    refine xal w.2.1 rfl (show 50 < 1620 by omega) (by decide) ?_
    refine pk_eq (pc (wP ω)) 0 (fun c0 => ?_) (fun c0 => ?_) q4 rfl
    · rw [if_pos (show flw (wN ω) (wP ω) (wG ω r) = true from decide_eq_true ⟨fun s hs => absurd hs (by omega), fun s hs => absurd hs (by omega)⟩)] at hQ
      exact ⟨Or.inr rfl, hQ _ _ ⟨rfl, w, frm_rf⟩⟩
    · refine xci (sp_Mo_isProper w k (s := 0) (by omega)) ?_
      by_cases cp : prop (wN ω) (pst (wP ω) 0) = true
      · refine pk_eq 1 0 (fun z => absurd z (by omega)) (fun _ => ?_) (by rw [if_pos cp]) rfl
        rw [if_pos (show flw (wN ω) (wP ω) (wG ω r) = true from decide_eq_true ⟨fun s hs => by rw [show s = 0 by omega]; exact cp, fun s hs => absurd hs (by omega)⟩)] at hQ
        exact ⟨Or.inr rfl, hQ _ _ ⟨rfl, w, frm_rf⟩⟩
      · refine pk_eq 0 0 (fun _ => ?_) (fun z => absurd rfl z) (by rw [if_neg cp]) rfl
        rw [if_neg (fun z => cp ((of_decide_eq_true z).1 0 (by omega)))] at hQ
        exact ⟨Or.inl rfl, hQ _ _ ⟨rfl, w, frm_rf⟩⟩
theorem sp_Mo_follows {h : xHp} {B : Nat} {ω : Wv} {r : Int32} (w : isM h B ω) (k : wok ω) : SpecR g_Mo_follows [.ref B, .int r] h (pM h B (stFollows ω r)) := by
  obtain ⟨F, tx, w⟩ := w
  obtain ⟨fs, hrc⟩ := bM_rc w.b
  refine SpecR.of (by decide +kernel) (Nat.le_of_ble_eq_true rfl) (fun c hc => by cases hc; exact ⟨_, _, _, rfl, hrc⟩) (fun v h' z => ⟨⟨_, z.1⟩, z.2.2.1, z.2.2.2.1⟩) (fun Q hQ => ?_)
  generalize hO : stFollows ω r = o at hQ
  unfold stFollows at hO
  have bad : ∀ c, (c, ω) = o → Q (some (.int c)) h := fun c e => by subst e; exact hQ _ _ ⟨rfl, ⟨F, tx, w⟩, frm_rf⟩
  have fin : ∀ (v : Int32) (ω' : Wv) (h' : xHp) (F' tx' : Nat → Int32), (v, ω') = o → isMF h' B ω' F' tx' → frm h h' B (B + 14) → Q (some (.int v)) h' := fun v ω' h' F' tx' e w' f => by subst e; exact hQ _ _ ⟨rfl, ⟨F', tx', w'⟩, f⟩
  have hn1 : 2 ≤ wN ω := k.1.1
  have hn : wN ω ≤ 7 := k.1.2.1
  have hS : ∀ i, i < wN ω → sS ω.1 i < 4 := k.1.2.2.1
  have hG : ∀ r, r < 6 → PM (wN ω) (wG ω r) := k.1.2.2.2.1
  have hP : pok (wN ω) (wP ω) := k.1.2.2.2.2
  refine xgoal [] 100 ok_Mo_follows ?_
  refine xci (sp_Mo_isRegister r h) ?_
  refine gdX (fun z => ?_) (fun q hq e hlt => ?_)
  · rw [gdN z] at hO; exact bad _ hO
  subst e
  rw [gdS hq] at hO
  refine xri (sp_Mo_isFollowed w k hlt) ?_
  rintro v h1 ⟨e, w1, fr1⟩
  cases e
  have fr2 : frm h h1 B (B + 14) := frm_wd fr1 (by omega) (by omega)
  unfold flI at hO ⊢
  by_cases c : flw (wN ω) (wP ω) (wG ω q) = true
  · rw [if_pos c] at hO ⊢
    exact pk_eq 1 0 (fun z => absurd z (by omega)) (fun _ => fin _ _ _ _ tx hO w1 fr2)
  · rw [if_neg c] at hO ⊢
    exact pk_eq 0 0 (fun _ => fin _ _ _ _ tx hO w1 fr2) (fun z => absurd rfl z)
