/-! THE CLASS'S CALLS, second half -/
theorem isPoem.eta {h : xHp} {a n : Nat} {p q : Pv} (hp : isPoem h a n p) (e : p = q) : isPoem h a n q := e ▸ hp
/-- only the poem has changed -/
theorem isT_poem {h h' : xHp} {A : Nat} {ω : Wv} {p : Pv} (w : isT h A ω) (hp : isPoem h' (A + 1 + 2) (wN ω) p) (f : frm h h' (A + 1 + 2) (A + 1 + 2 + 5)) : isT h' A (withP ω.1 p, ω.2) := by
  obtain ⟨g, g1, g2⟩ := regs w
  exact isT_sta w ⟨xat_fr w.2.1.1 f (by omega), ⟨g, xat_fr g1 f (by omega), g2⟩, hp⟩ (frm_wd f (by omega) (by omega))
theorem rows {h : xHp} {A : Nat} {ω : Wv} (w : isT h A ω) : ∃ f, xat h (A + 1 + 2 + 1) (xia 8 f) ∧ ∀ s, s < pc (wP ω) → f s = R (nrm (wN ω) (pst (wP ω) s)) := w.2.1.2.2.2.1
theorem lcks {h : xHp} {A : Nat} {ω : Wv} (w : isT h A ω) : ∃ f, xat h (A + 1 + 2 + 2) (xia 8 f) ∧ ∀ s, s < pc (wP ω) → f s = nI (plk (wP ω) s) := w.2.1.2.2.2.2.1
theorem trow {h : xHp} {A : Nat} {ω : Wv} (w : isT h A ω) : ∃ f, xat h (A + 1 + 2 + 3) (xia 4 f) ∧ ∀ l, l < ptl (wP ω) → f l = R (nrm (ptn (wP ω) l) (ptw (wP ω) l)) := w.2.1.2.2.2.2.2.1
theorem tlen {h : xHp} {A : Nat} {ω : Wv} (w : isT h A ω) : ∃ f, xat h (A + 1 + 2 + 4) (xia 4 f) ∧ ∀ l, l < ptl (wP ω) → f l = nI (ptn (wP ω) l) := w.2.1.2.2.2.2.2.2
theorem wpm {h : xHp} {A : Nat} {ω : Wv} (w : isT h A ω) : xat h (A + 1 + 2) (xob 2 [.int (nI (pc (wP ω))), .int (nI (ptl (wP ω))), .ref (A + 1 + 2 + 1), .ref (A + 1 + 2 + 2), .ref (A + 1 + 2 + 3), .ref (A + 1 + 2 + 4)]) := w.2.1.2.2.1
theorem sp_TV_add {h : xHp} {A : Nat} {ω : Wv} {r : Int32} (w : isT h A ω) (k : wok ω) : SpecR g_TV_add [.ref A, .int r] h (pT h A (stAdd ω r)) := by
  refine SpecR.of (by decide +kernel) (Nat.le_of_ble_eq_true rfl) (fun c hc => by cases hc; exact ⟨_, _, _, rfl, w.1⟩) (fun v h' z => ⟨⟨_, z.1⟩, z.2.2.1, z.2.2.2.1⟩) (fun Q hQ => ?_)
  generalize hO : stAdd ω r = o at hQ
  unfold stAdd at hO
  have bad : ∀ c, (c, ω) = o → Q (some (.int c)) h := fun c e => by subst e; exact hQ _ _ ⟨rfl, w, frm_rf⟩
  have hn1 : 2 ≤ wN ω := k.1.1
  have hn : wN ω ≤ 7 := k.1.2.1
  have hS : ∀ i, i < wN ω → sS ω.1 i < 4 := k.1.2.2.1
  have hG : ∀ r, r < 6 → PM (wN ω) (wG ω r) := k.1.2.2.2.1
  have hP : pok (wN ω) (wP ω) := k.1.2.2.2.2
  refine xgoal [] 100 ok_TV_add ?_
  refine xci (sp_TV_isRegister r h) ?_
  refine gdX (fun z => ?_) (fun i hi e hlt => ?_)
  · rw [gdN z] at hO; exact bad _ hO
  subst e
  rw [gdS hi] at hO
  refine xgf w.1 rfl ?_
  refine xgf w.2.1.1 rfl ?_
  refine xgf (wpm w) rfl ?_
  have hc8 := hP.1
  refine pk_lt (pc (wP ω)) 8 (fun c8 => ?_) (fun c8 => ?_)
  · rw [if_neg (by omega)] at hO
    refine xgf w.1 rfl ?_
    refine xgf w.1 rfl ?_
    refine xrcd w k (fun h1 w1 fr1 => ?_)
    have fin : ∀ (f : Nat → Nat), (∀ i', i' < wN ω → f i' = (if pc (wP ω) = 0 then i' else pst (wP ω) (pc (wP ω) - 1) (wG ω i i'))) → ∀ h2, isPoem h2 (A + 1 + 2) (wN ω) (padd (wP ω) f) → frm h1 h2 (A + 1 + 2) (A + 1 + 2 + 5) → xat h2 (A + 1 + 2) (xob 2 [.int (nI (pc (wP ω) + 1)), .int (nI (ptl (wP ω))), .ref (A + 1 + 2 + 1), .ref (A + 1 + 2 + 2), .ref (A + 1 + 2 + 3), .ref (A + 1 + 2 + 4)]) ∧ Q (some (.int (nI (pc (wP ω) + 1)))) h2 := fun f hf h2 hp fr2 => by
      obtain ⟨q0, ⟨u, q1, q2⟩, q3⟩ := hp
      refine ⟨q0, ?_⟩
      have hp' : isPoem h2 (A + 1 + 2) (wN ω) (padd (wP ω) (fun i' => if pc (wP ω) = 0 then i' else pst (wP ω) (pc (wP ω) - 1) (wG ω i i'))) := ⟨q0, ⟨u, q1, fun s hs => by
        rw [q2 s hs]
        refine R_nrm (fun j hj => ?_)
        show (if s = pc (wP ω) then f else pst (wP ω) s) j = (if s = pc (wP ω) then (fun i' => if pc (wP ω) = 0 then i' else pst (wP ω) (pc (wP ω) - 1) (wG ω i i')) else pst (wP ω) s) j
        by_cases e : s = pc (wP ω)
        · rw [if_pos e, if_pos e]; exact hf j hj
        · rw [if_neg e, if_neg e]⟩, q3⟩
      have w2 := isT_poem (ω := rcd ω) w1 hp' fr2
      subst hO
      exact hQ _ _ ⟨rfl, w2, frm_tr fr1 fr2 (by omega) (by omega)⟩
    refine xgf (wpm w1) rfl ?_
    refine pk_eq (pc (wP ω)) 0 (fun c0 => ?_) (fun c0 => ?_)
    · refine xgf w1.1 rfl ?_
      refine xgf w1.2.1.1 rfl ?_
      refine xci (sp_Row_ascending hn h1) ?_
      refine xrv (sp_Poem_append (f := fun i => i) w1.2.1.2.2 c8) ?_
      rintro h2 ⟨-, hp, fr2⟩
      obtain ⟨q0, hq⟩ := fin (fun i => i) (fun i' _ => by rw [if_pos c0]) h2 hp fr2
      exact xgf q0 rfl hq
    · obtain ⟨u, u1, u2⟩ := rows w1
      obtain ⟨g, g1, g2⟩ := regs w1
      have e1 : nI (pc (wP ω)) - nI 1 = nI (pc (wP ω) - 1) := pk_sub (by omega)
      refine xgf (wpm w1) rfl ?_
      refine xgf (wpm w1) rfl ?_
      refine xal u1 e1 (show pc (wP ω) - 1 < 8 by omega) (by decide) ?_
      refine xgf w1.1 rfl ?_
      refine xgf w1.2.1.1 rfl ?_
      refine xal g1 rfl hlt (by decide) ?_
      refine xgf w1.1 rfl ?_
      refine xgf w1.2.1.1 rfl ?_
      have hrow := hP.2.1 (pc (wP ω) - 1) (by omega)
      have sp := sp_Row_turned (n := wN ω) (f := pst (wP ω) (pc (wP ω) - 1)) (g := wG ω i) hn (fun j hj => by have := hrow j hj; omega) (hG i hlt).1 h1
      have u3 := u2 (pc (wP ω) - 1) (show pc (wP ω) - 1 < pc (wP ω) by omega)
      have g3 := g2 i hlt
      have u3 : u (pc (wP ω) - 1) = R (nrm (wN ω) (pst (wP ω) (pc (wP ω) - 1))) := u3
      have g3 : g i = R (nrm (wN ω) (wG ω i)) := g3
      rw [← u3, ← g3] at sp
      refine xci sp ?_
      refine xrv (sp_Poem_append (f := fun j => pst (wP ω) (pc (wP ω) - 1) (wG ω i j)) w1.2.1.2.2 c8) ?_
      rintro h2 ⟨-, hp, fr2⟩
      obtain ⟨q0, hq⟩ := fin _ (fun i' _ => by rw [if_neg c0]) h2 hp fr2
      exact xgf q0 rfl hq
  · rw [if_pos c8] at hO; exact bad _ hO
theorem sp_TV_drop {h : xHp} {A : Nat} {ω : Wv} (w : isT h A ω) (k : wok ω) : SpecR g_TV_drop [.ref A] h (pT h A (stDrop ω)) := by
  refine SpecR.of (by decide +kernel) (Nat.le_of_ble_eq_true rfl) (fun c hc => by cases hc; exact ⟨_, _, _, rfl, w.1⟩) (fun v h' z => ⟨⟨_, z.1⟩, z.2.2.1, z.2.2.2.1⟩) (fun Q hQ => ?_)
  generalize hO : stDrop ω = o at hQ
  unfold stDrop at hO
  have bad : ∀ c, (c, ω) = o → Q (some (.int c)) h := fun c e => by subst e; exact hQ _ _ ⟨rfl, w, frm_rf⟩
  have hn1 : 2 ≤ wN ω := k.1.1
  have hn : wN ω ≤ 7 := k.1.2.1
  have hS : ∀ i, i < wN ω → sS ω.1 i < 4 := k.1.2.2.1
  have hG : ∀ r, r < 6 → PM (wN ω) (wG ω r) := k.1.2.2.2.1
  have hP : pok (wN ω) (wP ω) := k.1.2.2.2.2
  refine xgoal [] 100 ok_TV_drop ?_
  refine xgf w.1 rfl ?_
  refine xgf w.2.1.1 rfl ?_
  refine xgf (wpm w) rfl ?_
  have hc8 := hP.1
  refine pk_eq (pc (wP ω)) 0 (fun c0 => ?_) (fun c0 => ?_)
  · rw [if_pos c0] at hO; exact bad _ hO
  rw [if_neg c0] at hO
  refine xgf w.1 rfl ?_
  refine xgf w.1 rfl ?_
  refine xrcd w k (fun h1 w1 fr1 => ?_)
  refine xgf w1.1 rfl ?_
  refine xgf w1.2.1.1 rfl ?_
  refine xgf (wpm w1) rfl ?_
  refine xpf (wpm w1) (Nat.le_of_ble_eq_true rfl) rfl ?_
  have e1 : nI (pc (wP ω)) - nI 1 = nI (pc (wP ω) - 1) := pk_sub (by omega)
  have hp1 := w1.2.1.2.2
  obtain ⟨q0, ⟨u1, q1, z1⟩, ⟨u2, q2, z2⟩, ⟨u3, q3, z3⟩, ⟨u4, q4, z4⟩⟩ := hp1
  have fr2 : frm h1 (xset h1 (A + 1 + 2) (xob 2 [.int (nI (pc (wP ω)) - nI 1), .int (nI (ptl (wP ω))), .ref (A + 1 + 2 + 1), .ref (A + 1 + 2 + 2), .ref (A + 1 + 2 + 3), .ref (A + 1 + 2 + 4)])) (A + 1 + 2) (A + 1 + 2 + 1) := frm_set frm_rf (by omega) (by omega)
  have hp : isPoem (xset h1 (A + 1 + 2) (xob 2 [.int (nI (pc (wP ω)) - nI 1), .int (nI (ptl (wP ω))), .ref (A + 1 + 2 + 1), .ref (A + 1 + 2 + 2), .ref (A + 1 + 2 + 3), .ref (A + 1 + 2 + 4)])) (A + 1 + 2) (wN ω) (pc (wP ω) - 1, (wP ω).2) := by
    refine ⟨?_, ⟨u1, xat_fr q1 fr2 (by omega), fun s hs => z1 s (by have hs : s < pc (wP ω) - 1 := hs; show s < pc (wP ω); omega)⟩, ⟨u2, xat_fr q2 fr2 (by omega), fun s hs => z2 s (by have hs : s < pc (wP ω) - 1 := hs; show s < pc (wP ω); omega)⟩, ⟨u3, xat_fr q3 fr2 (by omega), z3⟩, ⟨u4, xat_fr q4 fr2 (by omega), z4⟩⟩
    rw [e1]
    exact xat_sf q0.1
  have w2 := isT_poem (ω := rcd ω) w1 hp (frm_wd fr2 (by omega) (by omega))
  refine xgf w2.1 rfl ?_
  refine xgf w2.2.1.1 rfl ?_
  refine xgf (wpm w2) rfl ?_
  subst hO
  exact hQ _ _ ⟨rfl, w2, frm_tr fr1 fr2 (by omega) (by omega)⟩
theorem sp_TV_put {h : xHp} {A : Nat} {ω : Wv} {a b c : Int32} (w : isT h A ω) (k : wok ω) : SpecR g_TV_put [.ref A, .int a, .int b, .int c] h (pT h A (stPut ω a b c)) := by
  refine SpecR.of (by decide +kernel) (Nat.le_of_ble_eq_true rfl) (fun c hc => by cases hc; exact ⟨_, _, _, rfl, w.1⟩) (fun v h' z => ⟨⟨_, z.1⟩, z.2.2.1, z.2.2.2.1⟩) (fun Q hQ => ?_)
  generalize hO : stPut ω a b c = o at hQ
  unfold stPut at hO
  have bad : ∀ c, (c, ω) = o → Q (some (.int c)) h := fun c e => by subst e; exact hQ _ _ ⟨rfl, w, frm_rf⟩
  have hn1 : 2 ≤ wN ω := k.1.1
  have hn : wN ω ≤ 7 := k.1.2.1
  have hS : ∀ i, i < wN ω → sS ω.1 i < 4 := k.1.2.2.1
  have hG : ∀ r, r < 6 → PM (wN ω) (wG ω r) := k.1.2.2.2.1
  have hP : pok (wN ω) (wP ω) := k.1.2.2.2.2
  refine xgoal [] 100 ok_TV_put ?_
  have hc8 := hP.1
  refine xci (sp_TV_isStanza a w hc8) ?_
  refine gdX (fun z => ?_) (fun s hs e hs8 => ?_)
  · rw [gdN z] at hO; exact bad _ hO
  subst e
  rw [gdS hs] at hO
  refine xci (sp_TV_isLine b w hn) ?_
  refine gdX (fun z => ?_) (fun i hi e hin => ?_)
  · rw [gdN z] at hO; exact bad _ hO
  subst e
  rw [gdS hi] at hO
  refine xci (sp_TV_isLine c w hn) ?_
  refine gdX (fun z => ?_) (fun x hx e hxn => ?_)
  · rw [gdN z] at hO; exact bad _ hO
  subst e
  rw [gdS hx] at hO
  refine xgf w.1 rfl ?_
  refine xgf w.1 rfl ?_
  refine xrcd w k (fun h1 w1 fr1 => ?_)
  have hp1 := w1.2.1.2.2
  obtain ⟨q0, ⟨u1, q1, z1⟩, ⟨u2, q2, z2⟩, ⟨u3, q3, z3⟩, ⟨u4, q4, z4⟩⟩ := hp1
  have zs : u1 s = R (nrm (wN ω) (pst (wP ω) s)) := z1 s hs8
  have hrow := hP.2.1 s hs8
  have h8 : b8 (nrm (wN ω) (pst (wP ω) s)) := nrm_b8 (fun j hj => by have := hrow j hj; omega)
  refine xgf w1.1 rfl ?_
  refine xgf w1.2.1.1 rfl ?_
  refine xgf (wpm w1) rfl ?_
  refine xal q1 rfl (show s < 8 by omega) (by decide) ?_
  refine xgf w1.1 rfl ?_
  refine xgf w1.2.1.1 rfl ?_
  refine xgf (wpm w1) rfl ?_
  have sp := sp_Row_with (f := nrm (wN ω) (pst (wP ω) s)) (i := i) (v := x) h8 (by omega) (by omega) h1
  rw [R_upn hin, ← zs] at sp
  refine xci sp ?_
  refine xal q1 rfl (show s < 8 by omega) (by decide) ?_
  have fr2 : frm h1 (xset h1 (A + 1 + 2 + 1) (xia 8 (upd u1 s (R (nrm (wN ω) (upn (pst (wP ω) s) i x)))))) (A + 1 + 2 + 1) (A + 1 + 2 + 1 + 1) := frm_set frm_rf (by omega) (by omega)
  have hp : isPoem (xset h1 (A + 1 + 2 + 1) (xia 8 (upd u1 s (R (nrm (wN ω) (upn (pst (wP ω) s) i x)))))) (A + 1 + 2) (wN ω) (pput (wP ω) s i x) := by
    refine ⟨xat_fr q0 fr2 (by omega), ⟨_, xat_sf q1.1, fun t ht => ?_⟩, ⟨u2, xat_fr q2 fr2 (by omega), z2⟩, ⟨u3, xat_fr q3 fr2 (by omega), z3⟩, ⟨u4, xat_fr q4 fr2 (by omega), z4⟩⟩
    show upd u1 s _ t = R (nrm (wN ω) (if t = s then upn (pst (wP ω) s) i x else pst (wP ω) t))
    unfold upd
    by_cases e : t = s
    · rw [if_pos e, if_pos e]
    · rw [if_neg e, if_neg e]; exact z1 t ht
  have w2 := isT_poem (ω := rcd ω) w1 hp (frm_wd fr2 (by omega) (by omega))
  have sp := sp_Row_entry (f := nrm (wN ω) (pst (wP ω) s)) (i := i) h8 (by omega) (xset h1 (A + 1 + 2 + 1) (xia 8 (upd u1 s (R (nrm (wN ω) (upn (pst (wP ω) s) i x))))))
  rw [nrm_in hin, ← zs] at sp
  refine xci sp ?_
  subst hO
  exact hQ _ _ ⟨rfl, w2, frm_tr fr1 fr2 (by omega) (by omega)⟩
theorem sp_TV_lock {h : xHp} {A : Nat} {ω : Wv} {a b c : Int32} (w : isT h A ω) (k : wok ω) : SpecR g_TV_lock [.ref A, .int a, .int b, .int c] h (pT h A (stLock ω a b c)) := by
  refine SpecR.of (by decide +kernel) (Nat.le_of_ble_eq_true rfl) (fun c hc => by cases hc; exact ⟨_, _, _, rfl, w.1⟩) (fun v h' z => ⟨⟨_, z.1⟩, z.2.2.1, z.2.2.2.1⟩) (fun Q hQ => ?_)
  generalize hO : stLock ω a b c = o at hQ
  unfold stLock at hO
  have bad : ∀ c, (c, ω) = o → Q (some (.int c)) h := fun c e => by subst e; exact hQ _ _ ⟨rfl, w, frm_rf⟩
  have hn1 : 2 ≤ wN ω := k.1.1
  have hn : wN ω ≤ 7 := k.1.2.1
  have hS : ∀ i, i < wN ω → sS ω.1 i < 4 := k.1.2.2.1
  have hG : ∀ r, r < 6 → PM (wN ω) (wG ω r) := k.1.2.2.2.1
  have hP : pok (wN ω) (wP ω) := k.1.2.2.2.2
  refine xgoal [] 100 ok_TV_lock ?_
  have hc8 := hP.1
  have h7 := p2_7 hn
  refine xci (sp_TV_isStanza a w hc8) ?_
  refine gdX (fun z => ?_) (fun s hs e hs8 => ?_)
  · rw [gdN z] at hO; exact bad _ hO
  subst e
  rw [gdS hs] at hO
  refine xci (sp_TV_isLine b w hn) ?_
  refine gdX (fun z => ?_) (fun i hi e hin => ?_)
  · rw [gdN z] at hO; exact bad _ hO
  subst e
  rw [gdS hi] at hO
  refine xgf w.1 rfl ?_
  refine xgf w.1 rfl ?_
  refine xrcd w k (fun h1 w1 fr1 => ?_)
  have hp1 := w1.2.1.2.2
  obtain ⟨q0, ⟨u1, q1, z1⟩, ⟨u2, q2, z2⟩, ⟨u3, q3, z3⟩, ⟨u4, q4, z4⟩⟩ := hp1
  have zs : u2 s = nI (plk (wP ω) s) := z2 s hs8
  have hlk := hP.2.2.1 s hs8
  refine xgf w1.1 rfl ?_
  refine xgf w1.2.1.1 rfl ?_
  refine xgf (wpm w1) rfl ?_
  refine xal q2 rfl (show s < 8 by omega) (by decide) ?_
  refine xgf w1.1 rfl ?_
  refine xgf w1.2.1.1 rfl ?_
  refine xgf (wpm w1) rfl ?_
  have eb : u2 s >>> (nI i &&& 31) &&& nI 1 = nI (plk (wP ω) s / 2 ^ i % 2) := by
    rw [zs, n_shr (by omega) (by omega), n_and, show (1 : Nat) = 2 ^ 1 - 1 from rfl, Nat.and_two_pow_sub_one_eq_mod]
  have fin : ∀ m : Nat, (nI (plk (wP ω) s / 2 ^ i % 2), wS ω (withP ω.1 (plok (wP ω) s m))) = o → Q (some (.int (u2 s >>> (nI i &&& 31) &&& nI 1))) (xset h1 (A + 1 + 2 + 2) (xia 8 (upd u2 s (nI m)))) := fun m hO => by
    have fr2 : frm h1 (xset h1 (A + 1 + 2 + 2) (xia 8 (upd u2 s (nI m)))) (A + 1 + 2 + 2) (A + 1 + 2 + 2 + 1) := frm_set frm_rf (by omega) (by omega)
    have hp : isPoem (xset h1 (A + 1 + 2 + 2) (xia 8 (upd u2 s (nI m)))) (A + 1 + 2) (wN ω) (plok (wP ω) s m) := by
      refine ⟨xat_fr q0 fr2 (by omega), ⟨u1, xat_fr q1 fr2 (by omega), z1⟩, ⟨_, xat_sf q2.1, fun t ht => ?_⟩, ⟨u3, xat_fr q3 fr2 (by omega), z3⟩, ⟨u4, xat_fr q4 fr2 (by omega), z4⟩⟩
      show upd u2 s _ t = nI (upn (plk (wP ω)) s m t)
      unfold upd upn
      by_cases e : t = s
      · rw [if_pos e, if_pos e]
      · rw [if_neg e, if_neg e]; exact z2 t ht
    have w2 := isT_poem (ω := rcd ω) w1 hp (frm_wd fr2 (by omega) (by omega))
    subst hO
    rw [eb]
    exact hQ _ _ ⟨rfl, w2, frm_tr fr1 fr2 (by omega) (by omega)⟩
  refine And.intro (fun z => ?_) (fun z => ?_)
  · have z : c = 0 := z
    rw [if_pos z] at hO
    refine xal q2 rfl (show s < 8 by omega) (by decide) ?_
    have e : u2 s &&& ((nI 1 <<< (nI i &&& 31)) ^^^ -1) = nI (plk (wP ω) s &&& (2 ^ i ^^^ 4294967295)) := by rw [zs, n_bit1 (by omega), n_m1, n_xor, n_and]
    have := fin _ hO
    rw [← e] at this
    exact this
  · have z : ¬ c = 0 := z
    rw [if_neg z] at hO
    refine xal q2 rfl (show s < 8 by omega) (by decide) ?_
    have e : u2 s ||| (nI 1 <<< (nI i &&& 31)) = nI (plk (wP ω) s ||| 2 ^ i) := by rw [zs, n_bit1 (by omega), n_or]
    have := fin _ hO
    rw [← e] at this
    exact this
theorem sp_TV_word {h : xHp} {A : Nat} {ω : Wv} {a b : Int32} (w : isT h A ω) (k : wok ω) : SpecR g_TV_word [.ref A, .int a, .int b] h (pT h A (stWord ω a b)) := by
  refine SpecR.of (by decide +kernel) (Nat.le_of_ble_eq_true rfl) (fun c hc => by cases hc; exact ⟨_, _, _, rfl, w.1⟩) (fun v h' z => ⟨⟨_, z.1⟩, z.2.2.1, z.2.2.2.1⟩) (fun Q hQ => ?_)
  generalize hO : stWord ω a b = o at hQ
  unfold stWord at hO
  have bad : ∀ c, (c, ω) = o → Q (some (.int c)) h := fun c e => by subst e; exact hQ _ _ ⟨rfl, w, frm_rf⟩
  have hn1 : 2 ≤ wN ω := k.1.1
  have hn : wN ω ≤ 7 := k.1.2.1
  have hS : ∀ i, i < wN ω → sS ω.1 i < 4 := k.1.2.2.1
  have hG : ∀ r, r < 6 → PM (wN ω) (wG ω r) := k.1.2.2.2.1
  have hP : pok (wN ω) (wP ω) := k.1.2.2.2.2
  refine xgoal [] 100 ok_TV_word ?_
  have hc8 := hP.1
  refine xci (sp_TV_isStanza a w hc8) ?_
  refine gdX (fun z => ?_) (fun s hs e hs8 => ?_)
  · rw [gdN z] at hO; exact bad _ hO
  subst e
  rw [gdS hs] at hO
  refine xci (sp_TV_isLine b w hn) ?_
  refine gdX (fun z => ?_) (fun i hi e hin => ?_)
  · rw [gdN z] at hO; exact bad _ hO
  subst e
  rw [gdS hi] at hO
  obtain ⟨u1, q1, z1⟩ := rows w
  have hrow := hP.2.1 s hs8
  refine xgf w.1 rfl ?_
  refine xgf w.2.1.1 rfl ?_
  refine xgf (wpm w) rfl ?_
  refine xal q1 rfl (show s < 8 by omega) (by decide) ?_
  have sp := sp_Row_entry (f := nrm (wN ω) (pst (wP ω) s)) (i := i) (nrm_b8 (fun j hj => by have := hrow j hj; omega)) (by omega) h
  rw [nrm_in hin, ← z1 s hs8] at sp
  refine xci sp ?_
  exact bad _ hO
theorem sp_TV_proper {h : xHp} {A : Nat} {ω : Wv} {a : Int32} (w : isT h A ω) (k : wok ω) : SpecR g_TV_proper [.ref A, .int a] h (pT h A (stProper ω a)) := by
  refine SpecR.of (by decide +kernel) (Nat.le_of_ble_eq_true rfl) (fun c hc => by cases hc; exact ⟨_, _, _, rfl, w.1⟩) (fun v h' z => ⟨⟨_, z.1⟩, z.2.2.1, z.2.2.2.1⟩) (fun Q hQ => ?_)
  generalize hO : stProper ω a = o at hQ
  unfold stProper at hO
  have bad : ∀ c, (c, ω) = o → Q (some (.int c)) h := fun c e => by subst e; exact hQ _ _ ⟨rfl, w, frm_rf⟩
  have hn1 : 2 ≤ wN ω := k.1.1
  have hn : wN ω ≤ 7 := k.1.2.1
  have hS : ∀ i, i < wN ω → sS ω.1 i < 4 := k.1.2.2.1
  have hG : ∀ r, r < 6 → PM (wN ω) (wG ω r) := k.1.2.2.2.1
  have hP : pok (wN ω) (wP ω) := k.1.2.2.2.2
  refine xgoal [] 100 ok_TV_proper ?_
  have hc8 := hP.1
  refine xci (sp_TV_isStanza a w hc8) ?_
  refine gdX (fun z => ?_) (fun s hs e hs8 => ?_)
  · rw [gdN z] at hO; exact bad _ hO
  subst e
  rw [gdS hs] at hO
  obtain ⟨u1, q1, z1⟩ := rows w
  have hrow := hP.2.1 s hs8
  refine xgf w.1 rfl ?_
  refine xgf w.2.1.1 rfl ?_
  refine xgf (wpm w) rfl ?_
  refine xal q1 rfl (show s < 8 by omega) (by decide) ?_
  refine xgf w.1 rfl ?_
  refine xgf w.2.1.1 rfl ?_
  have sp := sp_hasEach (n := wN ω) (f := pst (wP ω) s) hn (fun j hj => by have := hrow j hj; omega) h
  rw [← z1 s hs8] at sp
  refine xci sp ?_
  by_cases c : prop (wN ω) (pst (wP ω) s) = true
  · rw [if_pos c] at hO
    exact pk_eq 1 0 (fun z => absurd z (by omega)) (fun _ => bad _ hO) (by rw [if_pos c]) rfl
  · rw [if_neg c] at hO
    exact pk_eq 0 0 (fun _ => bad _ hO) (fun z => absurd rfl z) (by rw [if_neg c]) rfl
theorem sp_TV_turning {h : xHp} {A : Nat} {ω : Wv} {a : Int32} (w : isT h A ω) (k : wok ω) : SpecR g_TV_turning [.ref A, .int a] h (pT h A (stTurning ω a)) := by
  refine SpecR.of (by decide +kernel) (Nat.le_of_ble_eq_true rfl) (fun c hc => by cases hc; exact ⟨_, _, _, rfl, w.1⟩) (fun v h' z => ⟨⟨_, z.1⟩, z.2.2.1, z.2.2.2.1⟩) (fun Q hQ => ?_)
  generalize hO : stTurning ω a = o at hQ
  unfold stTurning at hO
  have bad : ∀ c, (c, ω) = o → Q (some (.int c)) h := fun c e => by subst e; exact hQ _ _ ⟨rfl, w, frm_rf⟩
  have hn1 : 2 ≤ wN ω := k.1.1
  have hn : wN ω ≤ 7 := k.1.2.1
  have hS : ∀ i, i < wN ω → sS ω.1 i < 4 := k.1.2.2.1
  have hG : ∀ r, r < 6 → PM (wN ω) (wG ω r) := k.1.2.2.2.1
  have hP : pok (wN ω) (wP ω) := k.1.2.2.2.2
  refine xgoal [] 100 ok_TV_turning ?_
  have hc8 := hP.1
  refine xci (sp_TV_isStanza a w hc8) ?_
  refine gdX (fun z => ?_) (fun s hs e hs8 => ?_)
  · rw [gdN z] at hO; exact bad _ hO
  subst e
  rw [gdS hs] at hO
  refine xgf w.1 rfl ?_
  refine xgf w.2.1.1 rfl ?_
  refine xgf w.1 rfl ?_
  refine xgf w.2.1.1 rfl ?_
  refine xci (sp_Poem_turnBehind (n := wN ω) (p := wP ω) (s := s) hn w.2.1.2.2 hP (by omega)) ?_
  unfold tbI at hO
  by_cases c : tbh (wN ω) (wP ω) s = true
  · have hpm := (tbp_PM hP c).2.2
    rw [if_pos c] at hO
    rw [if_pos c]
    refine And.intro (fun z => absurd z (nI_m1 (by have := pak7 (nrm_b8 (n := wN ω) (f := tbp (wN ω) (wP ω) s) (fun j hj => by have := hpm.1 j hj; omega)); omega))) (fun _ => ?_)
    refine xgf w.1 rfl ?_
    refine xgf w.2.1.1 rfl ?_
    refine xci (sp_Perm_number hn hpm h) ?_
    exact bad _ hO
  · rw [if_neg c] at hO
    rw [if_neg c]
    exact And.intro (fun _ => bad _ hO) (fun z => absurd rfl z)
theorem sp_TV_common {h : xHp} {A : Nat} {ω : Wv} {r : Int32} (w : isT h A ω) (k : wok ω) : SpecR g_TV_common [.ref A, .int r] h (pT h A (stCommon ω r)) := by
  refine SpecR.of (by decide +kernel) (Nat.le_of_ble_eq_true rfl) (fun c hc => by cases hc; exact ⟨_, _, _, rfl, w.1⟩) (fun v h' z => ⟨⟨_, z.1⟩, z.2.2.1, z.2.2.2.1⟩) (fun Q hQ => ?_)
  generalize hO : stCommon ω r = o at hQ
  unfold stCommon at hO
  have bad : ∀ c, (c, ω) = o → Q (some (.int c)) h := fun c e => by subst e; exact hQ _ _ ⟨rfl, w, frm_rf⟩
  have hn1 : 2 ≤ wN ω := k.1.1
  have hn : wN ω ≤ 7 := k.1.2.1
  have hS : ∀ i, i < wN ω → sS ω.1 i < 4 := k.1.2.2.1
  have hG : ∀ r, r < 6 → PM (wN ω) (wG ω r) := k.1.2.2.2.1
  have hP : pok (wN ω) (wP ω) := k.1.2.2.2.2
  refine xgoal [] 100 ok_TV_common ?_
  refine xci (sp_TV_isRegister r h) ?_
  refine gdX (fun z => ?_) (fun i hi e hlt => ?_)
  · rw [gdN z] at hO; exact bad _ hO
  subst e
  rw [gdS hi] at hO
  have no : ¬ (tbh (wN ω) (wP ω) 0 = true ∧ flw (wN ω) (wP ω) (tbp (wN ω) (wP ω) 0) = true) → ∀ h1, isT h1 A (rcd ω) → frm h h1 A (A + 84) → Q (some (.int (-9))) h1 := fun z h1 w1 fr1 => by
    rw [if_neg z] at hO
    subst hO
    exact hQ _ _ ⟨rfl, w1, fr1⟩
  refine xgf w.1 rfl ?_
  refine xgf w.2.1.1 rfl ?_
  refine xgf w.1 rfl ?_
  refine xgf w.2.1.1 rfl ?_
  refine xci (sp_Poem_turnBehind (n := wN ω) (p := wP ω) (s := 0) hn w.2.1.2.2 hP (by omega)) ?_
  by_cases c : tbh (wN ω) (wP ω) 0 = true
  · have hpm := (tbp_PM hP c).2.2
    rw [if_pos c]
    refine And.intro (fun z => absurd z (nI_m1 (by have := pak7 (nrm_b8 (n := wN ω) (f := tbp (wN ω) (wP ω) 0) (fun j hj => by have := hpm.1 j hj; omega)); omega))) (fun _ => ?_)
    refine xgf w.1 rfl ?_
    refine xgf w.2.1.1 rfl ?_
    refine xgf w.1 rfl ?_
    refine xgf w.2.1.1 rfl ?_
    refine xci (sp_Poem_turnsBy hn w.2.1.2.2 hP hpm) ?_
    by_cases c2 : flw (wN ω) (wP ω) (tbp (wN ω) (wP ω) 0) = true
    · rw [if_pos ⟨c, c2⟩] at hO
      refine pk_eq 1 0 (fun z => absurd z (by omega)) (fun _ => ?_) (by rw [if_pos c2]) rfl
      refine xri (sp_TV_store w k hlt hpm) ?_
      rintro v h2 ⟨e, w2, fr2⟩
      cases e
      subst hO
      exact hQ _ _ ⟨rfl, w2, fr2⟩
    · refine pk_eq 0 0 (fun _ => ?_) (fun z => absurd rfl z) (by rw [if_neg c2]) rfl
      refine xgf w.1 rfl ?_
      refine xgf w.1 rfl ?_
      exact xrcd w k (fun h1 w1 fr1 => no (fun z => c2 z.2) h1 w1 fr1)
  · rw [if_neg c]
    refine And.intro (fun _ => ?_) (fun z => absurd rfl z)
    refine xgf w.1 rfl ?_
    refine xgf w.1 rfl ?_
    exact xrcd w k (fun h1 w1 fr1 => no (fun z => c z.1) h1 w1 fr1)
theorem sp_TV_follows {h : xHp} {A : Nat} {ω : Wv} {r : Int32} (w : isT h A ω) (k : wok ω) : SpecR g_TV_follows [.ref A, .int r] h (pT h A (stFollows ω r)) := by
  refine SpecR.of (by decide +kernel) (Nat.le_of_ble_eq_true rfl) (fun c hc => by cases hc; exact ⟨_, _, _, rfl, w.1⟩) (fun v h' z => ⟨⟨_, z.1⟩, z.2.2.1, z.2.2.2.1⟩) (fun Q hQ => ?_)
  generalize hO : stFollows ω r = o at hQ
  unfold stFollows at hO
  have bad : ∀ c, (c, ω) = o → Q (some (.int c)) h := fun c e => by subst e; exact hQ _ _ ⟨rfl, w, frm_rf⟩
  have hn1 : 2 ≤ wN ω := k.1.1
  have hn : wN ω ≤ 7 := k.1.2.1
  have hS : ∀ i, i < wN ω → sS ω.1 i < 4 := k.1.2.2.1
  have hG : ∀ r, r < 6 → PM (wN ω) (wG ω r) := k.1.2.2.2.1
  have hP : pok (wN ω) (wP ω) := k.1.2.2.2.2
  refine xgoal [] 100 ok_TV_follows ?_
  obtain ⟨g, g1, g2⟩ := regs w
  refine xci (sp_TV_isRegister r h) ?_
  refine gdX (fun z => ?_) (fun i hi e hlt => ?_)
  · rw [gdN z] at hO; exact bad _ hO
  subst e
  rw [gdS hi] at hO
  refine xgf w.1 rfl ?_
  refine xgf w.2.1.1 rfl ?_
  refine xgf w.1 rfl ?_
  refine xgf w.2.1.1 rfl ?_
  refine xal g1 rfl hlt (by decide) ?_
  refine xgf w.1 rfl ?_
  refine xgf w.2.1.1 rfl ?_
  have sp := sp_Poem_turnsBy hn w.2.1.2.2 hP (hG i hlt)
  rw [← g2 i hlt] at sp
  refine xci sp ?_
  unfold flI at hO
  by_cases c : flw (wN ω) (wP ω) (wG ω i) = true
  · rw [if_pos c] at hO
    exact pk_eq 1 0 (fun z => absurd z (by omega)) (fun _ => bad _ hO) (by rw [if_pos c]) rfl
  · rw [if_neg c] at hO
    exact pk_eq 0 0 (fun _ => bad _ hO) (fun z => absurd rfl z) (by rw [if_neg c]) rfl
theorem sp_TV_cost {h : xHp} {A : Nat} {ω : Wv} {r : Int32} (w : isT h A ω) (k : wok ω) : SpecR g_TV_cost [.ref A, .int r] h (pT h A (stCost ω r)) := by
  refine SpecR.of (by decide +kernel) (Nat.le_of_ble_eq_true rfl) (fun c hc => by cases hc; exact ⟨_, _, _, rfl, w.1⟩) (fun v h' z => ⟨⟨_, z.1⟩, z.2.2.1, z.2.2.2.1⟩) (fun Q hQ => ?_)
  generalize hO : stCost ω r = o at hQ
  unfold stCost at hO
  have bad : ∀ c, (c, ω) = o → Q (some (.int c)) h := fun c e => by subst e; exact hQ _ _ ⟨rfl, w, frm_rf⟩
  have hn1 : 2 ≤ wN ω := k.1.1
  have hn : wN ω ≤ 7 := k.1.2.1
  have hS : ∀ i, i < wN ω → sS ω.1 i < 4 := k.1.2.2.1
  have hG : ∀ r, r < 6 → PM (wN ω) (wG ω r) := k.1.2.2.2.1
  have hP : pok (wN ω) (wP ω) := k.1.2.2.2.2
  refine xgoal [] 100 ok_TV_cost ?_
  obtain ⟨g, g1, g2⟩ := regs w
  have hc8 := hP.1
  refine xci (sp_TV_isRegister r h) ?_
  refine gdX (fun z => ?_) (fun i hi e hlt => ?_)
  · rw [gdN z] at hO; exact bad _ hO
  subst e
  rw [gdS hi] at hO
  refine xgf w.1 rfl ?_
  refine xgf w.2.1.1 rfl ?_
  refine xgf (wpm w) rfl ?_
  refine pk_eq (pc (wP ω)) 0 (fun c0 => ?_) (fun c0 => ?_)
  · rw [if_pos c0] at hO; exact bad _ hO
  rw [if_neg c0] at hO
  refine xgf w.1 rfl ?_
  refine xgf w.1 rfl ?_
  refine xgf w.2.1.1 rfl ?_
  refine xgf w.1 rfl ?_
  refine xgf w.2.1.1 rfl ?_
  refine xal g1 rfl hlt (by decide) ?_
  refine xgf w.1 rfl ?_
  refine xgf w.2.1.1 rfl ?_
  have sp := sp_Fit_changes (n := wN ω) (p := wP ω) w.2.2.2.2.2.2.2.1 w.2.1.2.2 hP (by omega) hn (hG i hlt) (by omega)
  rw [← g2 i hlt] at sp
  refine xri sp ?_
  rintro v h1 ⟨e, hF, -, fr1⟩
  cases e
  subst hO
  exact hQ _ _ ⟨rfl, isT_fit w hF.sh fr1, frm_wd fr1 (by omega) (by omega)⟩
theorem sp_TV_mend {h : xHp} {A : Nat} {ω : Wv} {r : Int32} (w : isT h A ω) (k : wok ω) : SpecR g_TV_mend [.ref A, .int r] h (pT h A (stMend ω r)) := by
  refine SpecR.of (by decide +kernel) (Nat.le_of_ble_eq_true rfl) (fun c hc => by cases hc; exact ⟨_, _, _, rfl, w.1⟩) (fun v h' z => ⟨⟨_, z.1⟩, z.2.2.1, z.2.2.2.1⟩) (fun Q hQ => ?_)
  generalize hO : stMend ω r = o at hQ
  unfold stMend at hO
  have bad : ∀ c, (c, ω) = o → Q (some (.int c)) h := fun c e => by subst e; exact hQ _ _ ⟨rfl, w, frm_rf⟩
  have hn1 : 2 ≤ wN ω := k.1.1
  have hn : wN ω ≤ 7 := k.1.2.1
  have hS : ∀ i, i < wN ω → sS ω.1 i < 4 := k.1.2.2.1
  have hG : ∀ r, r < 6 → PM (wN ω) (wG ω r) := k.1.2.2.2.1
  have hP : pok (wN ω) (wP ω) := k.1.2.2.2.2
  refine xgoal [] 100 ok_TV_mend ?_
  have hc8 := hP.1
  refine xci (sp_TV_isRegister r h) ?_
  refine gdX (fun z => ?_) (fun i hi e hlt => ?_)
  · rw [gdN z] at hO; exact bad _ hO
  subst e
  rw [gdS hi] at hO
  refine xgf w.1 rfl ?_
  refine xgf w.2.1.1 rfl ?_
  refine xgf (wpm w) rfl ?_
  refine pk_eq (pc (wP ω)) 0 (fun c0 => ?_) (fun c0 => ?_)
  · rw [if_pos c0] at hO; exact bad _ hO
  rw [if_neg c0] at hO
  refine xgf w.1 rfl ?_
  refine xgf w.1 rfl ?_
  refine xrcd w k (fun h1 w1 fr1 => ?_)
  obtain ⟨g, g1, g2⟩ := regs w1
  have g3 : g i = R (nrm (wN ω) (wG ω i)) := g2 i hlt
  refine xgf w1.1 rfl ?_
  refine xgf w1.2.1.1 rfl ?_
  refine xal g1 rfl hlt (by decide) ?_
  refine xgf w1.1 rfl ?_
  refine xgf w1.1 rfl ?_
  refine xgf w1.2.1.1 rfl ?_
  refine xgf w1.1 rfl ?_
  refine xgf w1.2.1.1 rfl ?_
  have sp := sp_Fit_changes w1.2.2.2.2.2.2.2.1 w1.2.1.2.2 hP (by show 1 ≤ wN ω; omega) hn (hG i hlt) (by omega)
  have sp : SpecR g_Fit_changes [.ref (A + 79), .ref (A + 1 + 2), .int (R (nrm (wN ω) (wG ω i))), .int (nI (wN ω))] h1 _ := sp
  rw [← g3] at sp
  refine xri sp ?_
  rintro v h2 ⟨e, hF, hM, fr2⟩
  cases e
  have w2 := isT_fit w1 hF.sh fr2
  have fr2' := frm_tr fr1 fr2 (by omega) (by omega)
  have hB := fitB_p hn hP (hG i hlt)
  obtain ⟨cc1, cc2⟩ := cst_le hn hP (hG i hlt)
  unfold cstI at hO
  have ecs : cstI (wN ω) (wG ω i) (wP ω) = if cst (wN ω) (wG ω i) (wP ω) = 0 then -9 else nI (wN ω * pc (wP ω) + 1 - cst (wN ω) (wG ω i) (wP ω)) := rfl
  by_cases cz : cst (wN ω) (wG ω i) (wP ω) = 0
  · rw [if_pos cz] at hO ecs
    refine And.intro (fun _ => ?_) (fun z => absurd ecs z)
    subst hO
    have := hQ _ _ ⟨rfl, w2, fr2'⟩
    rw [← ecs] at this
    exact this
  · rw [if_neg cz, if_neg cz] at hO
    rw [if_neg cz] at ecs
    refine And.intro (fun z => ?_) (fun _ => ?_)
    · exfalso
      have z : cstI (wN ω) (wG ω i) (wP ω) = -9 := z
      rw [ecs] at z
      have := congrArg Int32.toInt z
      rw [nI_toInt (by omega), show (-9 : Int32).toInt = -9 by decide] at this
      omega
    · refine xgf w2.1 rfl ?_
      refine xgf w2.2.1.1 rfl ?_
      refine xgf w2.1 rfl ?_
      refine xci (sp_Fit_firstRow hF hB hM cz) ?_
      refine xgf w2.1 rfl ?_
      refine xgf w2.2.1.1 rfl ?_
      have sp := sp_Poem_rewrite (g := frow (wN ω) (KPp (wN ω) (wG ω i) (wP ω)) (ALp (wN ω) (wG ω i) (wP ω))) (f := wG ω i) hn w2.2.1.2.2 hP (fun j hj => frow_lt hn cz hj) (hG i hlt)
      have sp : SpecR g_Poem_rewrite [.ref (A + 1 + 2), .int (R (nrm (wN ω) (frow (wN ω) (KPp (wN ω) (wG ω i) (wP ω)) (ALp (wN ω) (wG ω i) (wP ω))))), .int (R (nrm (wN ω) (wG ω i))), .int (nI (wN ω))] h2 _ := sp
      rw [← g3] at sp
      refine xrv sp ?_
      rintro h3 ⟨-, hp3, fr3⟩
      have w3 := isT_poem (ω := rcd ω) w2 hp3 fr3
      subst hO
      have := hQ _ _ ⟨rfl, w3, frm_tr fr2' fr3 (by omega) (by omega)⟩
      have this : Q (some (.int (nI (wN ω * pc (wP ω) + 1 - cst (wN ω) (wG ω i) (wP ω))))) h3 := this
      rw [← ecs] at this
      exact this
theorem sp_TV_best {h : xHp} {A : Nat} {ω : Wv} {r : Int32} (w : isT h A ω) (k : wok ω) : SpecR g_TV_best [.ref A, .int r] h (pT h A (stBest ω r)) := by
  refine SpecR.of (by decide +kernel) (Nat.le_of_ble_eq_true rfl) (fun c hc => by cases hc; exact ⟨_, _, _, rfl, w.1⟩) (fun v h' z => ⟨⟨_, z.1⟩, z.2.2.1, z.2.2.2.1⟩) (fun Q hQ => ?_)
  generalize hO : stBest ω r = o at hQ
  unfold stBest at hO
  have bad : ∀ c, (c, ω) = o → Q (some (.int c)) h := fun c e => by subst e; exact hQ _ _ ⟨rfl, w, frm_rf⟩
  have hn1 : 2 ≤ wN ω := k.1.1
  have hn : wN ω ≤ 7 := k.1.2.1
  have hS : ∀ i, i < wN ω → sS ω.1 i < 4 := k.1.2.2.1
  have hG : ∀ r, r < 6 → PM (wN ω) (wG ω r) := k.1.2.2.2.1
  have hP : pok (wN ω) (wP ω) := k.1.2.2.2.2
  refine xgoal [] 100 ok_TV_best ?_
  have hc8 := hP.1
  have h5 := fct_le hn
  refine xci (sp_TV_isRegister r h) ?_
  refine gdX (fun z => ?_) (fun i hi e hlt => ?_)
  · rw [gdN z] at hO; exact bad _ hO
  subst e
  rw [gdS hi] at hO
  refine xgf w.1 rfl ?_
  refine xgf w.2.1.1 rfl ?_
  refine xgf (wpm w) rfl ?_
  refine pk_eq (pc (wP ω)) 0 (fun c0 => ?_) (fun c0 => ?_)
  · rw [if_pos c0] at hO; exact bad _ hO
  rw [if_neg c0] at hO
  refine xgf w.1 rfl ?_
  refine xgf w.1 rfl ?_
  refine xrcd w k (fun h1 w1 fr1 => ?_)
  refine xgf w1.1 rfl ?_
  refine xgf w1.1 rfl ?_
  refine xgf w1.2.1.1 rfl ?_
  refine xgf w1.1 rfl ?_
  refine xgf w1.2.1.1 rfl ?_
  refine xri (sp_Fit_bestPermutation (n := wN ω) (p := wP ω) w1.2.2.2.2.2.2.2.1 w1.2.1.2.2 hP hn1 hn (by omega)) ?_
  rintro v h2 ⟨e, hF, fr2⟩
  cases e
  have w2 := isT_fit w1 hF fr2
  have fr2' := frm_tr fr1 fr2 (by omega) (by omega)
  by_cases cz : (bst (mk (wN ω) (wP ω)) (fct (wN ω))).1 = 0
  · rw [if_pos cz] at hO
    rw [if_pos cz]
    refine And.intro (fun _ => ?_) (fun z => absurd rfl z)
    subst hO
    exact hQ _ _ ⟨rfl, w2, fr2'⟩
  · rw [if_neg cz] at hO
    rw [if_neg cz]
    generalize hx : (bst (mk (wN ω) (wP ω)) (fct (wN ω))).2 = x at hO
    have hpm := unr_PM (wN ω) x
    refine And.intro (fun z => absurd z (nI_m1 (by have := pak7 (nrm_b8 (n := wN ω) (f := unr (wN ω) x) (fun j hj => by have := hpm.1 j hj; omega)); omega))) (fun _ => ?_)
    obtain ⟨g, g1, g2⟩ := regs w2
    refine xgf w2.1 rfl ?_
    refine xgf w2.2.1.1 rfl ?_
    refine xal g1 rfl hlt (by decide) ?_
    have fr3 : frm h2 (xset h2 (A + 1 + 1) (xia 6 (upd g i (R (nrm (wN ω) (unr (wN ω) x)))))) (A + 1 + 1) (A + 1 + 2) := frm_set frm_rf (by omega) (by omega)
    have hs : isState (xset h2 (A + 1 + 1) (xia 6 (upd g i (R (nrm (wN ω) (unr (wN ω) x)))))) (A + 1) (setR ω.1 i (unr (wN ω) x)) := by
      refine ⟨xat_fr w2.2.1.1 fr3 (by omega), ⟨_, xat_sf g1.1, fun q hq => ?_⟩, w2.2.1.2.2.fr fr3 (by omega)⟩
      show upd g i _ q = R (nrm (wN ω) (if q = i then unr (wN ω) x else sR ω.1 q))
      unfold upd
      by_cases e : q = i
      · rw [if_pos e, if_pos e]
      · rw [if_neg e, if_neg e]; exact g2 q hq
    have w3 : isT _ A (wS ω (setR ω.1 i (unr (wN ω) x))) := isT_sta (ω := rcd ω) w2 hs (frm_wd fr3 (by omega) (by omega))
    refine xgf w3.1 rfl ?_
    refine xgf w3.1 rfl ?_
    refine xgf w3.2.1.1 rfl ?_
    refine xgf w3.1 rfl ?_
    refine xgf w3.2.1.1 rfl ?_
    refine xri (sp_Fit_changes (n := wN ω) (p := wP ω) w3.2.2.2.2.2.2.2.1 w3.2.1.2.2 hP (by omega) hn hpm (by omega)) ?_
    rintro v h4 ⟨e, hF4, -, fr4⟩
    cases e
    have w4 := isT_fit w3 hF4.sh fr4
    subst hO
    exact hQ _ _ ⟨rfl, w4, frm_tr (frm_tr fr2' fr3 (by omega) (by omega)) fr4 (by omega) (by omega)⟩
