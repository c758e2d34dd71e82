/-! THE CLASS'S CALLS, the rest: loadPoem, the tail, rhymes, the whole -/
theorem pok_add {n : Nat} {p : Pv} {f : Nat → Nat} (hk : pok n p) (hc : pc p < 8) (hf : ∀ i, i < n → f i < n) : pok n (padd p f) := by
  obtain ⟨k1, k2, k3, k4, k5, k6⟩ := hk
  refine ⟨by show pc p + 1 ≤ 8; omega, fun s hs i hi => ?_, fun s hs => ?_, k4, k5, k6⟩
  · have hs : s < pc p + 1 := hs
    show (if s = pc p then f else pst p s) i < n
    by_cases e : s = pc p
    · rw [if_pos e]; exact hf i hi
    · rw [if_neg e]; exact k2 s (by omega) i hi
  · have hs : s < pc p + 1 := hs
    show (if s = pc p then 0 else plk p s) < 2 ^ n
    by_cases e : s = pc p
    · rw [if_pos e]; exact Nat.two_pow_pos n
    · rw [if_neg e]; exact k3 s (by omega)
theorem pok_tadd {n m : Nat} {p : Pv} {f : Nat → Nat} (hk : pok n p) (hc : ptl p < 4) (h1 : 1 ≤ m) (h3 : m ≤ 3) (hf : ∀ i, i < m → f i < n) : pok n (ptadd p m f) := by
  obtain ⟨k1, k2, k3, k4, k5, k6⟩ := hk
  refine ⟨k1, k2, k3, by show ptl p + 1 ≤ 4; omega, fun l hl => ?_, fun l hl i hi => ?_⟩
  · have hl : l < ptl p + 1 := hl
    show 1 ≤ (if l = ptl p then m else ptn p l) ∧ (if l = ptl p then m else ptn p l) ≤ 3
    by_cases e : l = ptl p
    · rw [if_pos e]; exact ⟨h1, h3⟩
    · rw [if_neg e]; exact k5 l (by omega)
  · have hl : l < ptl p + 1 := hl
    have hi : i < (if l = ptl p then m else ptn p l) := hi
    show (if l = ptl p then f else ptw p l) i < n
    by_cases e : l = ptl p
    · rw [if_pos e] at hi ⊢; exact hf i hi
    · rw [if_neg e] at hi ⊢; exact k6 l (by omega) i hi
theorem ptail_ok {T n : Nat} {t : Nat → Nat} : ∀ (k pos : Nat) (p : Pv) (pos' : Nat) (p' : Pv), pok n p → ptl p + k ≤ 4 → ptail T t n k pos p = .inr (pos', p') → pok n p'
  | 0, pos, p, pos', p', hk, hc, e => by cases e; exact hk
  | k + 1, pos, p, pos', p', hk, hc, e => by
    unfold ptail at e
    have hw := wct_le T t n 3 (pos + 1)
    split at e
    · cases e
    · rename_i c
      have h2 : pok n (ptadd p (wct T t n 3 (pos + 1)) (ltr t (pos + 1))) := pok_tadd hk (by omega) (by omega) hw (fun i hi => ltr_lt hi)
      split at e
      · exact ptail_ok k _ _ _ _ h2 (by show ptl p + 1 + k ≤ 4; omega) e
      · cases e; exact h2
theorem pstz_ok {T n : Nat} {t : Nat → Nat} : ∀ (k pos : Nat) (p : Pv) (pos' : Nat) (p' : Pv), pok n p → pc p + k ≤ 8 → pstz T t n k pos p = .inr (pos', p') → pok n p' ∧ ptl p' = ptl p
  | 0, pos, p, pos', p', hk, hc, e => by cases e; exact ⟨hk, rfl⟩
  | k + 1, pos, p, pos', p', hk, hc, e => by
    unfold pstz at e
    split at e
    · split at e
      · cases e
      · rename_i c
        have hw := wct_le T t n n (pos + 1)
        split at e
        · have h2 : pok n (padd p (ltr t (pos + 1))) := pok_add hk (by omega) (fun i hi => ltr_lt (T := T) (k := n) (by omega))
          have := pstz_ok k _ _ _ _ h2 (by show pc p + 1 + k ≤ 8; omega) e
          exact ⟨this.1, this.2⟩
        · cases e
    · cases e; exact ⟨hk, rfl⟩
theorem pread_ok {T n : Nat} {t : Nat → Nat} {p : Pv} (e : pread T t = .inr (n, p)) : 2 ≤ n ∧ n ≤ 7 ∧ pok n p := by
  unfold pread at e
  cases hf : pfirst T t with
  | inl f => rw [hf] at e; cases e
  | inr L =>
    rw [hf] at e
    have e : pfin T L (ptl4 T t L (pstz T t L 7 L (padd pv0 (ltr t 0)))) = .inr (n, p) := e
    have hL7 := wct_le T t 7 7 0
    have hL : L = wct T t 7 7 0 ∧ 2 ≤ L ∧ ∀ i, i < L → ltr t 0 i < L := by
      unfold pfirst at hf
      split at hf
      · cases hf
      · rename_i c1
        split at hf
        · cases hf
        · rename_i c2
          cases hf
          refine ⟨rfl, Nat.le_of_not_lt (fun z => c1 (Or.inl z)), fun i hi => ?_⟩
          have := sr_no (fun k => decide (wct T t 7 7 0 ≤ t k - 97)) (wct T t 7 7 0) 0 i (Nat.zero_le _) (by omega)
          have := of_decide_eq_false this
          unfold ltr
          rw [Nat.zero_add]
          omega
    obtain ⟨e1, e2, e3⟩ := hL
    have h0 : pok L (padd pv0 (ltr t 0)) := pok_add ⟨by decide, fun s hs => absurd hs (Nat.not_lt_zero s), fun s hs => absurd hs (Nat.not_lt_zero s), by decide, fun l hl => absurd hl (Nat.not_lt_zero l), fun l hl => absurd hl (Nat.not_lt_zero l)⟩ (by decide) e3
    cases hs : pstz T t L 7 L (padd pv0 (ltr t 0)) with
    | inl f => rw [hs] at e; have e : (.inl f : Nat ⊕ (Nat × Pv)) = .inr (n, p) := e; cases e
    | inr Z =>
      obtain ⟨pos, p1⟩ := Z
      rw [hs] at e
      obtain ⟨g1, g2⟩ := pstz_ok _ _ _ _ _ h0 (Nat.le_refl 8) hs
      have e : pfin T L (if tb T t pos = 59 then ptail T t L 4 pos p1 else .inr (pos, p1)) = .inr (n, p) := e
      have g2 : ptl p1 = 0 := g2
      split at e
      · cases ht : ptail T t L 4 pos p1 with
        | inl f => rw [ht] at e; have e : (.inl f : Nat ⊕ (Nat × Pv)) = .inr (n, p) := e; cases e
        | inr Z =>
          obtain ⟨pos2, p2⟩ := Z
          rw [ht] at e
          have e : (if pos2 < T then (.inl pos2 : Nat ⊕ (Nat × Pv)) else .inr (L, p2)) = .inr (n, p) := e
          split at e
          · cases e
          · cases e
            exact ⟨e2, by omega, ptail_ok _ _ _ _ _ g1 (by omega) ht⟩
      · have e : (if pos < T then (.inl pos : Nat ⊕ (Nat × Pv)) else .inr (L, p1)) = .inr (n, p) := e
        split at e
        · cases e
        · cases e
          exact ⟨e2, by omega, g1⟩
theorem sp_TV_loadPoem {h : xHp} {A : Nat} {ω : Wv} (w : isT h A ω) (k : wok ω) : SpecR g_TV_loadPoem [.ref A] h (pT h A (stLoadPoem ω)) := by
  refine SpecR.of (by decide +kernel) (Nat.le_of_ble_eq_true rfl) (fun c hc => by cases hc; exact ⟨_, _, _, rfl, w.1⟩) (fun v h' z => ⟨⟨_, z.1⟩, z.2.2.1, z.2.2.2.1⟩) (fun Q hQ => ?_)
  generalize hO : stLoadPoem ω = o at hQ
  unfold stLoadPoem at hO
  have bad : ∀ c, (c, ω) = o → Q (some (.int c)) h := fun c e => by subst e; exact hQ _ _ ⟨rfl, w, frm_rf⟩
  have hn1 : 2 ≤ wN ω := k.1.1
  have hn : wN ω ≤ 7 := k.1.2.1
  have hS : ∀ i, i < wN ω → sS ω.1 i < 4 := k.1.2.2.1
  have hG : ∀ r, r < 6 → PM (wN ω) (wG ω r) := k.1.2.2.2.1
  have hP : pok (wN ω) (wP ω) := k.1.2.2.2.2
  refine xgoal [] 100 ok_TV_loadPoem ?_
  obtain ⟨⟨n0, pos0, hp0⟩, hs0⟩ := w.2.2.2.2.1
  refine xgf w.1 rfl ?_
  refine xgf w.1 rfl ?_
  refine xri (sp_PR_readText hp0 hs0 w.2.2.2.1 k.2.2 (by omega)) ?_
  rintro v h1 ⟨hm, fr1⟩
  have fr1' : frm h h1 A (A + 84) := frm_wd fr1 (by omega) (by omega)
  cases hr : pread (wT ω) (wt ω) with
  | inl f =>
    rw [hr] at hm hO
    obtain ⟨e, h81, hP1, hS1⟩ := hm
    cases e
    refine And.intro (fun z => absurd z (nI_m1 (by omega))) (fun _ => ?_)
    subst hO
    exact hQ _ _ ⟨rfl, isT_prd w ⟨hP1, hS1⟩ fr1, fr1'⟩
  | inr Z =>
    obtain ⟨n, p⟩ := Z
    rw [hr] at hm hO
    have hO : (nI (pc p), wS ω (if n = wN ω then withP ω.1 p else withP (st0 n) p)) = o := hO
    obtain ⟨e, ⟨pos1, hP1⟩, hp1⟩ := hm
    cases e
    obtain ⟨n2, n7, pk⟩ := pread_ok hr
    have w1 := isT_prd w ⟨⟨_, _, hP1⟩, hp1.sh⟩ fr1
    refine And.intro (fun _ => ?_) (fun z => absurd rfl z)
    refine xgf w1.1 rfl ?_
    refine xgf w1.1 rfl ?_
    refine ⟨_, sp_Hist_remember w1.2.2.1 w1.2.1 k.1 (by omega), fun h2 z => ?_⟩
    obtain ⟨-, z2, fr2⟩ := z
    have w2 : isT h2 A (rcd ω) := isT_his w1 z2 fr2
    have hP2 : isPrd h2 (A + 68) (nI n) pos1 := xat_fr hP1 fr2 (by omega)
    have hp2 := hp1.fr fr2 (by omega)
    have fr2' : frm h h2 A (A + 84) := frm_tr fr1' fr2 (by omega) (by omega)
    refine xgf w2.1 rfl ?_
    refine xgf hP2 rfl ?_
    refine xgf w2.1 rfl ?_
    refine xgf w2.2.1.1 rfl ?_
    refine pk_eq n (wN ω) (fun c => ?_) (fun c => ?_)
    · rw [if_pos c] at hO
      refine xgf w2.1 rfl ?_
      refine xgf w2.2.1.1 rfl ?_
      refine xgf w2.1 rfl ?_
      refine xgf hP2 rfl ?_
      refine xrv (sp_Poem_copyFrom w2.2.1.2.2.sh hp2 (by omega)) ?_
      rintro h3 ⟨-, hp3, fr3⟩
      have hp3 := hp3 ⟨pk.1, pk.2.2.2.1⟩
      rw [c] at hp3
      have w3 := isT_poem (ω := rcd ω) w2 hp3 fr3
      refine xgf w3.1 rfl ?_
      refine xgf w3.2.1.1 rfl ?_
      refine xgf (wpm w3) rfl ?_
      subst hO
      exact hQ _ _ ⟨rfl, w3, frm_tr fr2' fr3 (by omega) (by omega)⟩
    · rw [if_neg c] at hO
      refine xgf w2.1 rfl ?_
      refine xgf w2.1 rfl ?_
      refine xgf hP2 rfl ?_
      refine xrv (sp_Sta_startWith (n := n) n7 w2.2.1.sh) ?_
      rintro h3 ⟨-, hs3, fr3⟩
      have w3 : isT h3 A (st0 n, (rcd ω).2) := isT_sta (ω := rcd ω) w2 hs3 fr3
      have hP3 : isPrd h3 (A + 68) (nI n) pos1 := xat_fr hP2 fr3 (by omega)
      have hp3 := hp2.fr fr3 (by omega)
      refine xgf w3.1 rfl ?_
      refine xgf w3.2.1.1 rfl ?_
      refine xgf w3.1 rfl ?_
      refine xgf hP3 rfl ?_
      refine xrv (sp_Poem_copyFrom w3.2.1.2.2.sh hp3 (by omega)) ?_
      rintro h4 ⟨-, hp4, fr4⟩
      have hp4 := hp4 ⟨pk.1, pk.2.2.2.1⟩
      have w4 := isT_poem (ω := (st0 n, (rcd ω).2)) w3 hp4 fr4
      refine xgf w4.1 rfl ?_
      refine xgf w4.2.1.1 rfl ?_
      refine xgf (wpm w4) rfl ?_
      subst hO
      exact hQ _ _ ⟨rfl, w4, frm_tr (frm_tr fr2' fr3 (by omega) (by omega)) fr4 (by omega) (by omega)⟩
theorem sp_TV_tail {h : xHp} {A : Nat} {ω : Wv} {a : Int32} (w : isT h A ω) (k : wok ω) : SpecR g_TV_tail [.ref A, .int a] h (pT h A (stTail ω a)) := by
  refine SpecR.of (by decide +kernel) (Nat.le_of_ble_eq_true rfl) (fun c hc => by cases hc; exact ⟨_, _, _, rfl, w.1⟩) (fun v h' z => ⟨⟨_, z.1⟩, z.2.2.1, z.2.2.2.1⟩) (fun Q hQ => ?_)
  generalize hO : stTail ω a = o at hQ
  unfold stTail at hO
  have bad : ∀ c, (c, ω) = o → Q (some (.int c)) h := fun c e => by subst e; exact hQ _ _ ⟨rfl, w, frm_rf⟩
  have hn1 : 2 ≤ wN ω := k.1.1
  have hn : wN ω ≤ 7 := k.1.2.1
  have hS : ∀ i, i < wN ω → sS ω.1 i < 4 := k.1.2.2.1
  have hG : ∀ r, r < 6 → PM (wN ω) (wG ω r) := k.1.2.2.2.1
  have hP : pok (wN ω) (wP ω) := k.1.2.2.2.2
  refine xgoal [] 100 ok_TV_tail ?_
  have h7 := p2_7 hn
  have hp1 := Nat.two_pow_pos (wN ω)
  refine gdZ (m := 4) (by omega) (fun z => ?_) (fun z => ?_) (fun x hx e hx4 => ?_)
  · rw [gdN z] at hO; exact bad _ hO
  · rw [gdN z] at hO; exact bad _ hO
  subst e
  rw [gdS hx] at hO
  refine xgf w.1 rfl ?_
  refine xgf w.2.1.1 rfl ?_
  refine xgf w.1 rfl ?_
  refine xgf w.2.1.1 rfl ?_
  refine xci (sp_Poem_wordsOfTail (n := wN ω) (p := wP ω) hn w.2.1.2.2 hP) ?_
  have em : (nI 1 <<< (nI (wN ω) &&& 31) - nI 1) &&& (nI (wot (wP ω) (ptl (wP ω))) ^^^ -1) = nI (mis (wN ω) (wP ω)) := by
    rw [n_bit1 (by omega), pk_sub (by omega), n_m1, n_xor, n_and]; rfl
  have hm : mis (wN ω) (wP ω) ≤ 2 ^ wN ω - 1 := Nat.and_le_left
  have hs12 : sumN (ptn (wP ω)) (ptl (wP ω)) ≤ ptl (wP ω) * 3 := sumN_bd (fun l hl => (hP.2.2.2.2.1 l hl).2)
  have ht4 := hP.2.2.2.1
  refine pk_eq x 0 (fun c => ?_) (fun c0 => ?_)
  · subst c
    refine xgf (wpm w) rfl ?_
    exact bad _ hO
  refine pk_eq x 1 (fun c => ?_) (fun c1 => ?_)
  · subst c
    refine xci (sp_Poem_lengthOfTail (n := wN ω) (p := wP ω) w.2.1.2.2 hP) ?_
    exact bad _ hO
  refine pk_eq x 2 (fun c => ?_) (fun c2 => ?_)
  · subst c
    have := bad _ hO
    have this : Q (some (.int (nI (mis (wN ω) (wP ω))))) h := this
    rw [← em] at this
    exact this
  · have : x = 3 := by omega
    subst this
    have hO : ((if sumN (ptn (wP ω)) (ptl (wP ω)) < wN ω then -9 else nI (pop (mis (wN ω) (wP ω)))), ω) = o := hO
    refine xci (sp_Poem_lengthOfTail (n := wN ω) (p := wP ω) w.2.1.2.2 hP) ?_
    refine xgf w.1 rfl ?_
    refine xgf w.2.1.1 rfl ?_
    refine pk_le (wN ω) (sumN (ptn (wP ω)) (ptl (wP ω))) (fun c => ?_) (fun c => ?_)
    · rw [if_neg (by omega)] at hO
      have sp := sp_JI_bitCount (x := mis (wN ω) (wP ω)) (by omega) h
      rw [← em] at sp
      refine xci sp ?_
      exact bad _ hO
    · rw [if_pos c] at hO
      exact bad _ hO
theorem sp_TV_tailWord {h : xHp} {A : Nat} {ω : Wv} {a b : Int32} (w : isT h A ω) (k : wok ω) : SpecR g_TV_tailWord [.ref A, .int a, .int b] h (pT h A (stTailWord ω a b)) := by
  refine SpecR.of (by decide +kernel) (Nat.le_of_ble_eq_true rfl) (fun c hc => by cases hc; exact ⟨_, _, _, rfl, w.1⟩) (fun v h' z => ⟨⟨_, z.1⟩, z.2.2.1, z.2.2.2.1⟩) (fun Q hQ => ?_)
  generalize hO : stTailWord ω a b = o at hQ
  unfold stTailWord at hO
  have bad : ∀ c, (c, ω) = o → Q (some (.int c)) h := fun c e => by subst e; exact hQ _ _ ⟨rfl, w, frm_rf⟩
  have hn1 : 2 ≤ wN ω := k.1.1
  have hn : wN ω ≤ 7 := k.1.2.1
  have hS : ∀ i, i < wN ω → sS ω.1 i < 4 := k.1.2.2.1
  have hG : ∀ r, r < 6 → PM (wN ω) (wG ω r) := k.1.2.2.2.1
  have hP : pok (wN ω) (wP ω) := k.1.2.2.2.2
  refine xgoal [] 100 ok_TV_tailWord ?_
  have ht4 := hP.2.2.2.1
  have h3 := hP.2.2.2.2.1
  refine And.intro (fun z => ?_) (fun z => ?_)
  · rw [gdN (ix_neg z)] at hO; exact bad _ hO
  refine xgf w.1 rfl ?_
  refine xgf w.2.1.1 rfl ?_
  refine xgf (wpm w) rfl ?_
  refine And.intro (fun z2 => ?_) (fun z2 => ?_)
  · have z2 : nI (ptl (wP ω)) ≤ a := z2
    rw [gdN (ix_ge (by omega) z2)] at hO; exact bad _ hO
  have z2 : ¬ nI (ptl (wP ω)) ≤ a := z2
  obtain ⟨l, hl⟩ := ix_in (by omega) z z2
  obtain ⟨e, hlt⟩ := ix_some hl
  subst e
  rw [gdS hl] at hO
  refine And.intro (fun z3 => ?_) (fun z3 => ?_)
  · rw [Int32.le_iff_toInt_le, nI_toInt (by omega)] at z3
    rw [if_neg (by omega)] at hO
    obtain ⟨u4, q4, r4⟩ := tlen w
    obtain ⟨u3, q3, r3⟩ := trow w
    have h3l := h3 l hlt
    refine xgf w.1 rfl ?_
    refine xgf w.2.1.1 rfl ?_
    refine xgf (wpm w) rfl ?_
    refine xal q4 rfl (show l < 4 by omega) (by decide) ?_
    refine And.intro (fun z4 => ?_) (fun z4 => ?_)
    · rw [r4 l hlt] at z4
      obtain ⟨x, hx⟩ := ix_in2 (by omega) (by rw [Int32.lt_iff_toInt_lt, nI_toInt (by omega)]; omega) z4
      obtain ⟨e, hxn⟩ := ix_some hx
      subst e
      rw [hx] at hO
      refine xgf w.1 rfl ?_
      refine xgf w.2.1.1 rfl ?_
      refine xgf (wpm w) rfl ?_
      refine xal q3 rfl (show l < 4 by omega) (by decide) ?_
      have sp := sp_Row_entry (f := nrm (ptn (wP ω) l) (ptw (wP ω) l)) (i := x) (nrm_b8 (fun j hj => by have := hP.2.2.2.2.2 l hlt j hj; omega)) (by omega) h
      rw [nrm_in hxn, ← r3 l hlt] at sp
      refine xci sp ?_
      exact bad _ hO
    · rw [r4 l hlt] at z4
      rw [ix_lt (by omega) z4] at hO
      exact bad _ hO
  · rw [Int32.le_iff_toInt_le, nI_toInt (by omega)] at z3
    rw [if_pos (by omega)] at hO
    exact bad _ hO
theorem sp_TV_soundsOf {h : xHp} {A s : Nat} {ω : Wv} (w : isT h A ω) (k : wok ω) (hs : s < pc (wP ω)) : Spec g_TV_soundsOf [.ref A, .int (nI s)] h (some (.int (R (nrm (wN ω) (snd_ ω s))))) h := by
  have hn : wN ω ≤ 7 := k.1.2.1
  have hS : ∀ i, i < wN ω → sS ω.1 i < 4 := k.1.2.2.1
  have hP : pok (wN ω) (wP ω) := k.1.2.2.2.2
  have hc8 := hP.1
  obtain ⟨u, q1, r1⟩ := rows w
  refine Spec.of (by decide +kernel) (Nat.le_of_ble_eq_true rfl) ⟨_, rfl⟩ rfl rfl (fun c hc => by cases hc; exact ⟨_, _, _, rfl, w.1⟩) (fun Q hQ => ?_)
  refine xgoal [] 100 ok_TV_soundsOf ?_
  refine xgf w.1 rfl ?_
  refine xgf w.2.1.1 rfl ?_
  refine xgf w.1 rfl ?_
  refine xgf w.2.1.1 rfl ?_
  refine xgf (wpm w) rfl ?_
  refine xal q1 rfl (show s < 8 by omega) (by decide) ?_
  refine xgf w.1 rfl ?_
  refine xgf w.2.1.1 rfl ?_
  have sp := sp_Row_turned (n := wN ω) (f := sS ω.1) (g := pst (wP ω) s) hn (fun i hi => by have := hS i hi; omega) (hP.2.1 s hs) h
  rw [← r1 s hs] at sp
  exact xci sp hQ
theorem snd_lt {ω : Wv} {s : Nat} (k : wok ω) (hs : s < pc (wP ω)) : ∀ i, i < wN ω → snd_ ω s i < 8 := fun i hi => by
  have hP : pok (wN ω) (wP ω) := k.1.2.2.2.2
  have hS : ∀ i, i < wN ω → sS ω.1 i < 4 := k.1.2.2.1
  have := hS _ (hP.2.1 s hs i hi)
  unfold snd_; omega
theorem sp_TV_scheme {h : xHp} {A : Nat} {ω : Wv} {a : Int32} (w : isT h A ω) (k : wok ω) : SpecR g_TV_scheme [.ref A, .int a] h (pT h A (stScheme ω a)) := by
  refine SpecR.of (by decide +kernel) (Nat.le_of_ble_eq_true rfl) (fun c hc => by cases hc; exact ⟨_, _, _, rfl, w.1⟩) (fun v h' z => ⟨⟨_, z.1⟩, z.2.2.1, z.2.2.2.1⟩) (fun Q hQ => ?_)
  generalize hO : stScheme ω a = o at hQ
  unfold stScheme at hO
  have bad : ∀ c, (c, ω) = o → Q (some (.int c)) h := fun c e => by subst e; exact hQ _ _ ⟨rfl, w, frm_rf⟩
  have hn1 : 2 ≤ wN ω := k.1.1
  have hn : wN ω ≤ 7 := k.1.2.1
  have hS : ∀ i, i < wN ω → sS ω.1 i < 4 := k.1.2.2.1
  have hG : ∀ r, r < 6 → PM (wN ω) (wG ω r) := k.1.2.2.2.1
  have hP : pok (wN ω) (wP ω) := k.1.2.2.2.2
  refine xgoal [] 100 ok_TV_scheme ?_
  have hc8 := hP.1
  refine xci (sp_TV_isStanza a w hc8) ?_
  refine gdX (fun z => ?_) (fun s hs e hs8 => ?_)
  · rw [gdN z] at hO; exact bad _ hO
  subst e
  rw [gdS hs] at hO
  refine xci (sp_TV_soundsOf w k hs8) ?_
  refine xgf w.1 rfl ?_
  refine xgf w.2.1.1 rfl ?_
  refine xci (sp_Rhy_pattern hn (snd_lt k hs8) h) ?_
  exact bad _ hO
theorem sp_TV_schemes {h : xHp} {A : Nat} {ω : Wv} {a r : Int32} (w : isT h A ω) (k : wok ω) : SpecR g_TV_schemes [.ref A, .int a, .int r] h (pT h A (stSchemes ω a r)) := by
  refine SpecR.of (by decide +kernel) (Nat.le_of_ble_eq_true rfl) (fun c hc => by cases hc; exact ⟨_, _, _, rfl, w.1⟩) (fun v h' z => ⟨⟨_, z.1⟩, z.2.2.1, z.2.2.2.1⟩) (fun Q hQ => ?_)
  generalize hO : stSchemes ω a r = o at hQ
  unfold stSchemes at hO
  have bad : ∀ c, (c, ω) = o → Q (some (.int c)) h := fun c e => by subst e; exact hQ _ _ ⟨rfl, w, frm_rf⟩
  have hn1 : 2 ≤ wN ω := k.1.1
  have hn : wN ω ≤ 7 := k.1.2.1
  have hS : ∀ i, i < wN ω → sS ω.1 i < 4 := k.1.2.2.1
  have hG : ∀ r, r < 6 → PM (wN ω) (wG ω r) := k.1.2.2.2.1
  have hP : pok (wN ω) (wP ω) := k.1.2.2.2.2
  refine xgoal [] 100 ok_TV_schemes ?_
  obtain ⟨g, g1, g2⟩ := regs w
  obtain ⟨fa, hfa⟩ := w.2.2.2.2.2.2.2.2
  have hc8 := hP.1
  refine xci (sp_TV_isStanza a w hc8) ?_
  refine gdX (fun z => ?_) (fun s hs e hs8 => ?_)
  · rw [gdN z] at hO; exact bad _ hO
  subst e
  rw [gdS hs] at hO
  refine xci (sp_TV_isRegister r h) ?_
  refine gdX (fun z => ?_) (fun i hi e hlt => ?_)
  · rw [gdN z] at hO; exact bad _ hO
  subst e
  rw [gdS hi] at hO
  refine xgf w.1 rfl ?_
  refine xgf w.2.1.1 rfl ?_
  refine xal g1 rfl hlt (by decide) ?_
  refine xci (sp_TV_soundsOf w k hs8) ?_
  refine xgf w.1 rfl ?_
  refine xgf w.2.1.1 rfl ?_
  refine xgf w.1 rfl ?_
  have sp := sp_Rhy_differentPatterns (n := wN ω) (z := snd_ ω s) (f := wG ω i) hn (snd_lt k hs8) (hG i hlt) hfa
  rw [← g2 i hlt] at sp
  refine xri sp ?_
  rintro v h1 ⟨e, hx, fr1⟩
  cases e
  subst hO
  exact hQ _ _ ⟨rfl, isT_seen w hx fr1, frm_wd fr1 (by omega) (by omega)⟩
theorem sp_TV_coupled {h : xHp} {A : Nat} {ω : Wv} {a : Int32} (w : isT h A ω) (k : wok ω) : SpecR g_TV_coupled [.ref A, .int a] h (pT h A (stCoupled ω a)) := by
  refine SpecR.of (by decide +kernel) (Nat.le_of_ble_eq_true rfl) (fun c hc => by cases hc; exact ⟨_, _, _, rfl, w.1⟩) (fun v h' z => ⟨⟨_, z.1⟩, z.2.2.1, z.2.2.2.1⟩) (fun Q hQ => ?_)
  generalize hO : stCoupled ω a = o at hQ
  unfold stCoupled at hO
  have bad : ∀ c, (c, ω) = o → Q (some (.int c)) h := fun c e => by subst e; exact hQ _ _ ⟨rfl, w, frm_rf⟩
  have hn1 : 2 ≤ wN ω := k.1.1
  have hn : wN ω ≤ 7 := k.1.2.1
  have hS : ∀ i, i < wN ω → sS ω.1 i < 4 := k.1.2.2.1
  have hG : ∀ r, r < 6 → PM (wN ω) (wG ω r) := k.1.2.2.2.1
  have hP : pok (wN ω) (wP ω) := k.1.2.2.2.2
  refine xgoal [] 100 ok_TV_coupled ?_
  have hc8 := hP.1
  refine xci (sp_TV_isStanza a w hc8) ?_
  refine gdX (fun z => ?_) (fun s hs e hs8 => ?_)
  · rw [gdN z] at hO; exact bad _ hO
  subst e
  rw [gdS hs] at hO
  refine xci (sp_TV_soundsOf w k hs8) ?_
  refine xgf w.1 rfl ?_
  refine xgf w.2.1.1 rfl ?_
  refine xci (sp_Rhy_mostNeighborly hn1 hn (snd_lt k hs8) h) ?_
  exact bad _ hO
theorem sp_TV_told {h : xHp} {A : Nat} {ω : Wv} {a : Int32} (w : isT h A ω) (k : wok ω) : SpecR g_TV_told [.ref A, .int a] h (pT h A (stTold ω a)) := by
  refine SpecR.of (by decide +kernel) (Nat.le_of_ble_eq_true rfl) (fun c hc => by cases hc; exact ⟨_, _, _, rfl, w.1⟩) (fun v h' z => ⟨⟨_, z.1⟩, z.2.2.1, z.2.2.2.1⟩) (fun Q hQ => ?_)
  generalize hO : stTold ω a = o at hQ
  unfold stTold at hO
  have bad : ∀ c, (c, ω) = o → Q (some (.int c)) h := fun c e => by subst e; exact hQ _ _ ⟨rfl, w, frm_rf⟩
  have hn1 : 2 ≤ wN ω := k.1.1
  have hn : wN ω ≤ 7 := k.1.2.1
  have hS : ∀ i, i < wN ω → sS ω.1 i < 4 := k.1.2.2.1
  have hG : ∀ r, r < 6 → PM (wN ω) (wG ω r) := k.1.2.2.2.1
  have hP : pok (wN ω) (wP ω) := k.1.2.2.2.2
  refine xgoal [] 100 ok_TV_told ?_
  obtain ⟨hl8, hx0, hx8, hh0, -⟩ := w.2.2.1
  refine gdZ (m := 6) (by omega) (fun z => ?_) (fun z => ?_) (fun x hx e hx4 => ?_)
  · rw [gdN z] at hO; exact bad _ hO
  · rw [gdN z] at hO; exact bad _ hO
  subst e
  rw [gdS hx] at hO
  refine pk_eq x 0 (fun c => ?_) (fun c0 => ?_)
  · subst c
    refine xgf w.1 rfl ?_
    refine xgf w.2.1.1 rfl ?_
    exact bad _ hO
  refine pk_eq x 1 (fun c => ?_) (fun c1 => ?_)
  · subst c
    refine xgf w.1 rfl ?_
    refine xgf w.2.1.1 rfl ?_
    refine xgf (wpm w) rfl ?_
    exact bad _ hO
  refine pk_eq x 2 (fun c => ?_) (fun c2 => ?_)
  · subst c
    refine xgf w.1 rfl ?_
    refine xgf w.2.1.1 rfl ?_
    refine xgf w.1 rfl ?_
    refine xgf w.2.1.1 rfl ?_
    refine xci (sp_Poem_properStanzas (n := wN ω) (p := wP ω) hn w.2.1.2.2 hP) ?_
    exact bad _ hO
  refine pk_eq x 3 (fun c => ?_) (fun c3 => ?_)
  · subst c
    refine xgf w.1 rfl ?_
    refine xgf w.2.1.1 rfl ?_
    refine xci (sp_Poem_lockedPlaces (n := wN ω) (p := wP ω) hn w.2.1.2.2 hP) ?_
    exact bad _ hO
  refine pk_eq x 4 (fun c => ?_) (fun c4 => ?_)
  · subst c
    refine xgf w.1 rfl ?_
    refine xgf w.2.2.2.1.2.1 rfl ?_
    exact bad _ hO
  · have : x = 5 := by omega
    subst this
    refine xgf w.1 rfl ?_
    refine xgf hh0 rfl ?_
    exact bad _ hO
theorem sp_TV_undo {h : xHp} {A : Nat} {ω : Wv} (w : isT h A ω) (k : wok ω) : SpecR g_TV_undo [.ref A] h (pT h A (stUndo ω)) := by
  refine SpecR.of (by decide +kernel) (Nat.le_of_ble_eq_true rfl) (fun c hc => by cases hc; exact ⟨_, _, _, rfl, w.1⟩) (fun v h' z => ⟨⟨_, z.1⟩, z.2.2.1, z.2.2.2.1⟩) (fun Q hQ => ?_)
  generalize hO : stUndo ω = o at hQ
  unfold stUndo at hO
  have bad : ∀ c, (c, ω) = o → Q (some (.int c)) h := fun c e => by subst e; exact hQ _ _ ⟨rfl, w, frm_rf⟩
  have hn1 : 2 ≤ wN ω := k.1.1
  have hn : wN ω ≤ 7 := k.1.2.1
  have hS : ∀ i, i < wN ω → sS ω.1 i < 4 := k.1.2.2.1
  have hG : ∀ r, r < 6 → PM (wN ω) (wG ω r) := k.1.2.2.2.1
  have hP : pok (wN ω) (wP ω) := k.1.2.2.2.2
  refine xgoal [] 100 ok_TV_undo ?_
  have hh := w.2.2.1
  have hl8 := hh.1
  obtain ⟨-, x, hx8, hh0, -⟩ := w.2.2.1
  refine xgf w.1 rfl ?_
  refine xgf hh0 rfl ?_
  cases hl : ω.2.1 with
  | nil =>
    rw [hl] at hO
    refine And.intro (fun _ => bad _ hO) (fun z => absurd ?_ z)
    rfl
  | cons σ l =>
    rw [hl] at hO hh hl8
    rw [List.length_cons] at hl8
    refine pk_eq (l.length + 1) 0 (fun c => absurd c (by omega)) (fun _ => ?_)
    refine xgf w.1 rfl ?_
    refine xgf w.1 rfl ?_
    refine xrv (sp_Hist_restore hh w.2.1.sh (k.2.1 σ (by rw [hl]; exact List.mem_cons_self)) (by omega)) ?_
    rintro h1 ⟨-, z1, z2, fr1, -⟩
    have w1 : isT h1 A (σ, l, ω.2.2) := by
      obtain ⟨w0, -, -, w3, ⟨⟨n, pos, w4⟩, w5⟩, ⟨q, w6⟩, w7, w8, ⟨g, w9⟩⟩ := w
      exact ⟨xat_fr w0 fr1 (by omega), z2, z1, w3.fr fr1 (by omega), ⟨⟨n, pos, xat_fr w4 fr1 (by omega)⟩, w5.fr fr1 (by omega)⟩, ⟨q, xat_fr w6 fr1 (by omega)⟩, w7.fr fr1 (by omega), w8.fr fr1 (by omega), ⟨g, xat_fr w9 fr1 (by omega)⟩⟩
    obtain ⟨-, x1, hx1, hh1, -⟩ := z1
    refine xgf w1.1 rfl ?_
    refine xgf hh1 rfl ?_
    subst hO
    exact hQ _ _ ⟨rfl, w1, frm_wd fr1 (by omega) (by omega)⟩
/-! the digest -/
theorem xrl_ {g : xSig} {As : List Value} {h : xHp} {P : Option Value → xHp → Prop} {K : Int64 → xHp → Prop} (sp : SpecR g As h P) (p : ∀ (r : Int64) (h' : xHp), P (some (.long r)) h' → K r h') : ∃ P : Option Value → xHp → Prop, SpecR g As h P ∧ ∀ (r : Int64) (h' : xHp), P (some (.long r)) h' → K r h' := ⟨P, sp, p⟩
theorem sp_TV_mixed (a b : Int64) (h : xHp) : Spec g_TV_mixed [.long a, .long b] h (some (.long (31 * a + b))) h := by
  refine Spec.of (by decide +kernel) (Nat.le_of_ble_eq_true rfl) ⟨_, rfl⟩ rfl rfl (fun c hc => by cases hc) (fun Q hQ => ?_)
  refine xgoal [] 100 ok_TV_mixed ?_
  exact hQ
def pL (h : xHp) (A : Nat) (ω : Wv) (x : Int64) : Option Value → xHp → Prop := fun v h' => v = some (.long x) ∧ isT h' A ω ∧ frm h h' A (A + 84)
theorem sp_TV_withStanza {h : xHp} {A s : Nat} {ω : Wv} {b : Int64} (w : isT h A ω) (k : wok ω) (hs : s < pc (wP ω)) : SpecR g_TV_withStanza [.ref A, .long b, .int (nI s)] h (pL h A ω (dgS ω s b)) := by
  have hn : wN ω ≤ 7 := k.1.2.1
  have hP : pok (wN ω) (wP ω) := k.1.2.2.2.2
  have h7 := p2_7 hn
  have hc8 := hP.1
  have hlk := hP.2.2.1 s hs
  have es : ix (pc (wP ω)) (nI s) = some s := ix_nI hs (by omega)
  refine SpecR.of (by decide +kernel) (Nat.le_of_ble_eq_true rfl) (fun c hc => by cases hc; exact ⟨_, _, _, rfl, w.1⟩) (fun v h' z => ⟨⟨_, z.1⟩, z.2.2.1, z.2.2.2.1⟩) (fun Q hQ => ?_)
  unfold dgS at hQ
  generalize hH : fI2 (fun i => nI (pst (wP ω) s i)) (wN ω) b = H at hQ
  refine xgoal [(6, [0, 3, 4, 6]), (42, [0, 3, 4, 6])] 100 ok_TV_withStanza ?_
  refine up_loop (P := fun i => ∀ k1 : xHp, frm h k1 A (A + 84) → isT k1 A ω → xAt (h.1, h.2.1) g_TV_withStanza Q 6 [(0, .ref A), (3, .int (nI s)), (4, .long (fI2 (fun i => nI (pst (wP ω) s i)) i b)), (6, .int (nI i))] [] k1) (wN ω) ?_ (fun i hi ih => ?_) 0 (Nat.zero_le _) h frm_rf w
  · intro k1 fr1 w1
    refine xgoal [(6, [0, 3, 4, 6]), (42, [0, 3, 4, 6])] 100 ok_TV_withStanza ?_
    refine xgf w1.1 rfl ?_
    refine xgf w1.2.1.1 rfl ?_
    refine pk_le (wN ω) (wN ω) (fun _ => ?_) (fun z => absurd z (by omega))
    rw [hH]
    obtain ⟨u2, q2, r2⟩ := lcks w1
    refine up_loop (P := fun i => xAt (h.1, h.2.1) g_TV_withStanza Q 42 [(0, .ref A), (3, .int (nI s)), (4, .long (fI2 (fun i => nI (plk (wP ω) s / 2 ^ i % 2)) i H)), (6, .int (nI i))] [] k1) (wN ω) ?_ (fun i hi ih => ?_) 0 (Nat.zero_le _)
    · refine xgoal [(6, [0, 3, 4, 6]), (42, [0, 3, 4, 6])] 100 ok_TV_withStanza ?_
      refine xgf w1.1 rfl ?_
      refine xgf w1.2.1.1 rfl ?_
      refine pk_le (wN ω) (wN ω) (fun _ => ?_) (fun z => absurd z (by omega))
      have e1 : stTurning ω (nI s) = (tbI (wN ω) (wP ω) s, ω) := gdS es
      have sp := sp_TV_turning (a := nI s) w1 k
      rw [e1] at sp
      refine xri sp ?_
      rintro v k2 ⟨e, w2, fr2⟩
      cases e
      refine xcl_ (sp_TV_mixed _ _ k2) ?_
      have e2 : stScheme ω (nI s) = (nI (patA (snd_ ω s) (wN ω)), ω) := gdS es
      have sp := sp_TV_scheme (a := nI s) w2 k
      rw [e2] at sp
      refine xri sp ?_
      rintro v k3 ⟨e, w3, fr3⟩
      cases e
      refine xcl_ (sp_TV_mixed _ _ k3) ?_
      exact hQ _ _ ⟨rfl, w3, frm_tr (frm_tr fr1 fr2 (Nat.le_refl _) (Nat.le_refl _)) fr3 (Nat.le_refl _) (Nat.le_refl _)⟩
    · refine xgoal [(6, [0, 3, 4, 6]), (42, [0, 3, 4, 6])] 100 ok_TV_withStanza ?_
      refine xgf w1.1 rfl ?_
      refine xgf w1.2.1.1 rfl ?_
      refine pk_le (wN ω) i (fun z => absurd z (by omega)) (fun _ => ?_)
      refine xgf w1.1 rfl ?_
      refine xgf w1.2.1.1 rfl ?_
      refine xgf (wpm w1) rfl ?_
      refine xal q2 rfl (show s < 8 by omega) (by decide) ?_
      refine xcl_ (sp_TV_mixed _ _ k1) ?_
      unfold fI2 at ih
      have eb : u2 s >>> (nI i &&& 31) &&& nI 1 = nI (plk (wP ω) s / 2 ^ i % 2) := by
        rw [r2 s hs, n_shr (by omega) (by omega), n_and, show (1 : Nat) = 2 ^ 1 - 1 from rfl, Nat.and_two_pow_sub_one_eq_mod]
      rw [← eb, ← nI_1 i] at ih
      exact ih
  · intro k1 fr1 w1
    refine xgoal [(6, [0, 3, 4, 6]), (42, [0, 3, 4, 6])] 100 ok_TV_withStanza ?_
    refine xgf w1.1 rfl ?_
    refine xgf w1.2.1.1 rfl ?_
    refine pk_le (wN ω) i (fun z => absurd z (by omega)) (fun _ => ?_)
    have e1 : stWord ω (nI s) (nI i) = (nI (pst (wP ω) s i), ω) := (gdS es).trans (gdS (ix_nI hi (by omega)))
    have sp := sp_TV_word (a := nI s) (b := nI i) w1 k
    rw [e1] at sp
    refine xri sp ?_
    rintro v k2 ⟨e, w2, fr2⟩
    cases e
    refine xcl_ (sp_TV_mixed _ _ k2) ?_
    have ih := ih k2 (frm_tr fr1 fr2 (Nat.le_refl _) (Nat.le_refl _)) w2
    unfold fI2 at ih
    rw [← nI_1 i] at ih
    exact ih
theorem sp_TV_withTail {h : xHp} {A : Nat} {ω : Wv} {b : Int64} (w : isT h A ω) (k : wok ω) : SpecR g_TV_withTail [.ref A, .long b] h (pL h A ω (dgT ω b)) := by
  have hP : pok (wN ω) (wP ω) := k.1.2.2.2.2
  have ht4 := hP.2.2.2.1
  refine SpecR.of (by decide +kernel) (Nat.le_of_ble_eq_true rfl) (fun c hc => by cases hc; exact ⟨_, _, _, rfl, w.1⟩) (fun v h' z => ⟨⟨_, z.1⟩, z.2.2.1, z.2.2.2.1⟩) (fun Q hQ => ?_)
  unfold dgT at hQ
  generalize hH : fI2 (fun w => tlI (wN ω) (wP ω) w) 4 b = H at hQ
  refine xgoal [(5, [0, 3, 5]), (32, [0, 3, 5]), (50, [0, 3, 5, 6])] 100 ok_TV_withTail ?_
  refine up_loop (P := fun i => ∀ k1 : xHp, frm h k1 A (A + 84) → isT k1 A ω → xAt (h.1, h.2.1) g_TV_withTail Q 5 [(0, .ref A), (3, .long (fI2 (fun w => tlI (wN ω) (wP ω) w) i b)), (5, .int (nI i))] [] k1) 4 ?_ (fun i hi ih => ?_) 0 (Nat.zero_le _) h frm_rf w
  · intro k1 fr1 w1
    refine xgoal [(5, [0, 3, 5]), (32, [0, 3, 5]), (50, [0, 3, 5, 6])] 100 ok_TV_withTail ?_
    refine pk_le 4 4 (fun _ => ?_) (fun z => absurd z (by omega))
    rw [hH]
    refine up_loop (P := fun l => ∀ k1 : xHp, frm h k1 A (A + 84) → isT k1 A ω → xAt (h.1, h.2.1) g_TV_withTail Q 32 [(0, .ref A), (3, .long (fL2 (fun l => fI2 (fun k => nI (ptw (wP ω) l k)) (ptn (wP ω) l)) l H)), (5, .int (nI l))] [] k1) (ptl (wP ω)) ?_ (fun l hl ih => ?_) 0 (Nat.zero_le _) k1 fr1 w1
    · intro k1 fr1 w1
      refine xgoal [(5, [0, 3, 5]), (32, [0, 3, 5]), (50, [0, 3, 5, 6])] 100 ok_TV_withTail ?_
      refine xgf w1.1 rfl ?_
      refine xgf w1.2.1.1 rfl ?_
      refine xgf (wpm w1) rfl ?_
      exact pk_le (ptl (wP ω)) (ptl (wP ω)) (fun _ => hQ _ _ ⟨rfl, w1, fr1⟩) (fun z => absurd z (by omega))
    · intro k1 fr1 w1
      have h3 := hP.2.2.2.2.1 l hl
      unfold fL2 at ih
      generalize fL2 (fun l => fI2 (fun k => nI (ptw (wP ω) l k)) (ptn (wP ω) l)) l H = G at ih ⊢
      refine xgoal [(5, [0, 3, 5]), (32, [0, 3, 5]), (50, [0, 3, 5, 6])] 100 ok_TV_withTail ?_
      refine xgf w1.1 rfl ?_
      refine xgf w1.2.1.1 rfl ?_
      refine xgf (wpm w1) rfl ?_
      refine pk_le (ptl (wP ω)) l (fun z => absurd z (by omega)) (fun _ => ?_)
      refine up_loop (P := fun i => ∀ k1 : xHp, frm h k1 A (A + 84) → isT k1 A ω → xAt (h.1, h.2.1) g_TV_withTail Q 50 [(0, .ref A), (3, .long (fI2 (fun k => nI (ptw (wP ω) l k)) i G)), (5, .int (nI l)), (6, .int (nI i))] [] k1) (ptn (wP ω) l) ?_ (fun i hi ihi => ?_) 0 (Nat.zero_le _) k1 fr1 w1
      · intro k1 fr1 w1
        obtain ⟨u4, q4, r4⟩ := tlen w1
        refine xgoal [(5, [0, 3, 5]), (32, [0, 3, 5]), (50, [0, 3, 5, 6])] 100 ok_TV_withTail ?_
        refine xgf w1.1 rfl ?_
        refine xgf w1.2.1.1 rfl ?_
        refine xgf (wpm w1) rfl ?_
        refine xal q4 rfl (show l < 4 by omega) (by decide) ?_
        refine pk_le (ptn (wP ω) l) (ptn (wP ω) l) (fun _ => ?_) (fun z => absurd z (by omega)) (r4 l hl) rfl
        have ih := ih k1 fr1 w1
        rw [← nI_1 l] at ih
        exact ih
      · intro k1 fr1 w1
        obtain ⟨u4, q4, r4⟩ := tlen w1
        refine xgoal [(5, [0, 3, 5]), (32, [0, 3, 5]), (50, [0, 3, 5, 6])] 100 ok_TV_withTail ?_
        refine xgf w1.1 rfl ?_
        refine xgf w1.2.1.1 rfl ?_
        refine xgf (wpm w1) rfl ?_
        refine xal q4 rfl (show l < 4 by omega) (by decide) ?_
        refine pk_le (ptn (wP ω) l) i (fun z => absurd z (by omega)) (fun _ => ?_) (r4 l hl) rfl
        have e1 : stTailWord ω (nI l) (nI i) = (nI (ptw (wP ω) l i), ω) := by
          refine (gdS (ix_nI hl (by omega))).trans ?_
          rw [if_neg (by rw [nI_toInt (by omega)]; omega), ix_nI hi (by omega)]
        have sp := sp_TV_tailWord (a := nI l) (b := nI i) w1 k
        rw [e1] at sp
        refine xri sp ?_
        rintro v k2 ⟨e, w2, fr2⟩
        cases e
        refine xcl_ (sp_TV_mixed _ _ k2) ?_
        have ihi := ihi k2 (frm_tr fr1 fr2 (Nat.le_refl _) (Nat.le_refl _)) w2
        unfold fI2 at ihi
        rw [← nI_1 i] at ihi
        exact ihi
  · intro k1 fr1 w1
    refine xgoal [(5, [0, 3, 5]), (32, [0, 3, 5]), (50, [0, 3, 5, 6])] 100 ok_TV_withTail ?_
    refine pk_le 4 i (fun z => absurd z (by omega)) (fun _ => ?_)
    have e1 : stTail ω (nI i) = (tlI (wN ω) (wP ω) i, ω) := gdS (ix_nI hi (by omega))
    have sp := sp_TV_tail (a := nI i) w1 k
    rw [e1] at sp
    refine xri sp ?_
    rintro v k2 ⟨e, w2, fr2⟩
    cases e
    refine xcl_ (sp_TV_mixed _ _ k2) ?_
    have ih := ih k2 (frm_tr fr1 fr2 (Nat.le_refl _) (Nat.le_refl _)) w2
    unfold fI2 at ih
    rw [← nI_1 i] at ih
    exact ih
theorem sp_TV_digest {h : xHp} {A : Nat} {ω : Wv} (w : isT h A ω) (k : wok ω) : SpecR g_TV_digest [.ref A] h (pL h A ω (dig ω)) := by
  have hn : wN ω ≤ 7 := k.1.2.1
  have hS : ∀ i, i < wN ω → sS ω.1 i < 4 := k.1.2.2.1
  have hP : pok (wN ω) (wP ω) := k.1.2.2.2.2
  have hc8 := hP.1
  refine SpecR.of (by decide +kernel) (Nat.le_of_ble_eq_true rfl) (fun c hc => by cases hc; exact ⟨_, _, _, rfl, w.1⟩) (fun v h' z => ⟨⟨_, z.1⟩, z.2.2.1, z.2.2.2.1⟩) (fun Q hQ => ?_)
  unfold dig at hQ
  generalize h1 : fI2 (tdI ω) 6 12674 = H1 at hQ
  generalize h2 : fI2 (fun w => nI (sS ω.1 w)) (wN ω) H1 = H2 at hQ
  generalize h3 : fL2 (fun r => fI2 (fun w => nI (prp (wN ω) (wG ω r) w)) 7) 6 H2 = H3 at hQ
  generalize h4 : fL2 (dgS ω) (pc (wP ω)) H3 = H4 at hQ
  generalize h5 : fI2 (fun r => nI (flI (wN ω) (wP ω) (wG ω r))) 6 H4 = H5 at hQ
  have at139 : ∀ k1 : xHp, frm h k1 A (A + 84) → isT k1 A ω → xAt (h.1, h.2.1) g_TV_digest Q 139 [(0, .ref A), (1, .long H4), (3, .int (nI 0))] [] k1 := by
    refine up_loop (P := fun r => ∀ k1 : xHp, frm h k1 A (A + 84) → isT k1 A ω → xAt (h.1, h.2.1) g_TV_digest Q 139 [(0, .ref A), (1, .long (fI2 (fun r => nI (flI (wN ω) (wP ω) (wG ω r))) r H4)), (3, .int (nI r))] [] k1) 6 ?_ (fun r hr ih => ?_) 0 (Nat.zero_le _)
    · intro k1 fr1 w1
      rw [h5]
      refine xgoal [(139, [0, 1, 3])] 100 ok_TV_digest ?_
      refine pk_le 6 6 (fun _ => ?_) (fun z => absurd z (by omega))
      refine xrl_ (sp_TV_withTail w1 k) ?_
      rintro v k2 ⟨e, w2, fr2⟩
      cases e
      exact hQ _ _ ⟨rfl, w2, frm_tr fr1 fr2 (Nat.le_refl _) (Nat.le_refl _)⟩
    · intro k1 fr1 w1
      refine xgoal [(139, [0, 1, 3])] 100 ok_TV_digest ?_
      refine pk_le 6 r (fun z => absurd z (by omega)) (fun _ => ?_)
      have e1 : stFollows ω (nI r) = (nI (flI (wN ω) (wP ω) (wG ω r)), ω) := gdS (ix_nI hr (by omega))
      have sp := sp_TV_follows (r := nI r) w1 k
      rw [e1] at sp
      refine xri sp ?_
      rintro v k2 ⟨e, w2, fr2⟩
      cases e
      refine xcl_ (sp_TV_mixed _ _ k2) ?_
      have ih := ih k2 (frm_tr fr1 fr2 (Nat.le_refl _) (Nat.le_refl _)) w2
      unfold fI2 at ih
      rw [← nI_1 r] at ih
      exact ih
  have at110 : ∀ k1 : xHp, frm h k1 A (A + 84) → isT k1 A ω → xAt (h.1, h.2.1) g_TV_digest Q 110 [(0, .ref A), (1, .long H3), (3, .int (nI 0))] [] k1 := by
    refine up_loop (P := fun s => ∀ k1 : xHp, frm h k1 A (A + 84) → isT k1 A ω → xAt (h.1, h.2.1) g_TV_digest Q 110 [(0, .ref A), (1, .long (fL2 (dgS ω) s H3)), (3, .int (nI s))] [] k1) (pc (wP ω)) ?_ (fun s hs ih => ?_) 0 (Nat.zero_le _)
    · intro k1 fr1 w1
      rw [h4]
      refine xgoal [(139, [0, 1, 3])] 100 ok_TV_digest ?_
      refine xgf w1.1 rfl ?_
      refine xgf w1.2.1.1 rfl ?_
      refine xgf (wpm w1) rfl ?_
      exact pk_le (pc (wP ω)) (pc (wP ω)) (fun _ => at139 k1 fr1 w1) (fun z => absurd z (by omega))
    · intro k1 fr1 w1
      refine xgoal [(110, [0, 1, 3]), (139, [0, 1, 3])] 100 ok_TV_digest ?_
      refine xgf w1.1 rfl ?_
      refine xgf w1.2.1.1 rfl ?_
      refine xgf (wpm w1) rfl ?_
      refine pk_le (pc (wP ω)) s (fun z => absurd z (by omega)) (fun _ => ?_)
      refine xrl_ (sp_TV_withStanza w1 k hs) ?_
      rintro v k2 ⟨e, w2, fr2⟩
      cases e
      have ih := ih k2 (frm_tr fr1 fr2 (Nat.le_refl _) (Nat.le_refl _)) w2
      unfold fL2 at ih
      rw [← nI_1 s] at ih
      exact ih
  have at67 : ∀ k1 : xHp, frm h k1 A (A + 84) → isT k1 A ω → xAt (h.1, h.2.1) g_TV_digest Q 67 [(0, .ref A), (1, .long H2), (3, .int (nI 0))] [] k1 := by
    refine up_loop (P := fun r => ∀ k1 : xHp, frm h k1 A (A + 84) → isT k1 A ω → xAt (h.1, h.2.1) g_TV_digest Q 67 [(0, .ref A), (1, .long (fL2 (fun r => fI2 (fun w => nI (prp (wN ω) (wG ω r) w)) 7) r H2)), (3, .int (nI r))] [] k1) 6 ?_ (fun r hr ih => ?_) 0 (Nat.zero_le _)
    · intro k1 fr1 w1
      rw [h3]
      refine xgoal [(110, [0, 1, 3])] 100 ok_TV_digest ?_
      exact pk_le 6 6 (fun _ => at110 k1 fr1 w1) (fun z => absurd z (by omega))
    · intro k1 fr1 w1
      unfold fL2 at ih
      generalize fL2 (fun r => fI2 (fun w => nI (prp (wN ω) (wG ω r) w)) 7) r H2 = G at ih ⊢
      refine xgoal [(67, [0, 1, 3]), (76, [0, 1, 3, 4])] 100 ok_TV_digest ?_
      refine pk_le 6 r (fun z => absurd z (by omega)) (fun _ => ?_)
      refine up_loop (P := fun x => ∀ k1 : xHp, frm h k1 A (A + 84) → isT k1 A ω → xAt (h.1, h.2.1) g_TV_digest Q 76 [(0, .ref A), (1, .long (fI2 (fun w => nI (prp (wN ω) (wG ω r) w)) x G)), (3, .int (nI r)), (4, .int (nI x))] [] k1) 7 ?_ (fun x hx ihx => ?_) 0 (Nat.zero_le _) k1 fr1 w1
      · intro k1 fr1 w1
        refine xgoal [(67, [0, 1, 3]), (76, [0, 1, 3, 4])] 100 ok_TV_digest ?_
        refine pk_le 7 7 (fun _ => ?_) (fun z => absurd z (by omega))
        have ih := ih k1 fr1 w1
        rw [← nI_1 r] at ih
        exact ih
      · intro k1 fr1 w1
        refine xgoal [(67, [0, 1, 3]), (76, [0, 1, 3, 4])] 100 ok_TV_digest ?_
        refine pk_le 7 x (fun z => absurd z (by omega)) (fun _ => ?_)
        have e1 : stTurn ω (nI r) (nI x) = (nI (prp (wN ω) (wG ω r) x), ω) := (gdS (ix_nI hr (by omega))).trans (gdS (ix_nI hx (by omega)))
        have sp := sp_TV_turn (r := nI r) (a := nI x) w1 k
        rw [e1] at sp
        refine xri sp ?_
        rintro v k2 ⟨e, w2, fr2⟩
        cases e
        refine xcl_ (sp_TV_mixed _ _ k2) ?_
        have ihx := ihx k2 (frm_tr fr1 fr2 (Nat.le_refl _) (Nat.le_refl _)) w2
        unfold fI2 at ihx
        rw [← nI_1 x] at ihx
        exact ihx
  have at31 : ∀ k1 : xHp, frm h k1 A (A + 84) → isT k1 A ω → xAt (h.1, h.2.1) g_TV_digest Q 31 [(0, .ref A), (1, .long H1), (3, .int (nI 0))] [] k1 := by
    intro k1 fr1 w1
    refine up_loop (P := fun i => xAt (h.1, h.2.1) g_TV_digest Q 31 [(0, .ref A), (1, .long (fI2 (fun w => nI (sS ω.1 w)) i H1)), (3, .int (nI i))] [] k1) (wN ω) ?_ (fun i hi ih => ?_) 0 (Nat.zero_le _)
    · rw [h2]
      refine xgoal [(67, [0, 1, 3])] 100 ok_TV_digest ?_
      refine xgf w1.1 rfl ?_
      refine xgf w1.2.1.1 rfl ?_
      exact pk_le (wN ω) (wN ω) (fun _ => at67 k1 fr1 w1) (fun z => absurd z (by omega))
    · refine xgoal [(31, [0, 1, 3]), (67, [0, 1, 3])] 100 ok_TV_digest ?_
      refine xgf w1.1 rfl ?_
      refine xgf w1.2.1.1 rfl ?_
      refine pk_le (wN ω) i (fun z => absurd z (by omega)) (fun _ => ?_)
      refine xgf w1.1 rfl ?_
      refine xgf w1.2.1.1 rfl ?_
      have sp := sp_Row_entry (f := nrm (wN ω) (sS ω.1)) (i := i) (nrm_b8 (fun j hj => by have := hS j hj; omega)) (by omega) k1
      rw [nrm_in hi] at sp
      refine xci sp ?_
      refine xcl_ (sp_TV_mixed _ _ k1) ?_
      unfold fI2 at ih
      rw [← nI_1 i] at ih
      exact ih
  refine xgoal [(6, [0, 1, 3])] 100 ok_TV_digest ?_
  refine up_loop (P := fun i => ∀ k1 : xHp, frm h k1 A (A + 84) → isT k1 A ω → xAt (h.1, h.2.1) g_TV_digest Q 6 [(0, .ref A), (1, .long (fI2 (tdI ω) i 12674)), (3, .int (nI i))] [] k1) 6 ?_ (fun i hi ih => ?_) 0 (Nat.zero_le _) h frm_rf w
  · intro k1 fr1 w1
    rw [h1]
    refine xgoal [(31, [0, 1, 3])] 100 ok_TV_digest ?_
    exact pk_le 6 6 (fun _ => at31 k1 fr1 w1) (fun z => absurd z (by omega))
  · intro k1 fr1 w1
    refine xgoal [(6, [0, 1, 3]), (31, [0, 1, 3])] 100 ok_TV_digest ?_
    refine pk_le 6 i (fun z => absurd z (by omega)) (fun _ => ?_)
    have e1 : stTold ω (nI i) = (tdI ω i, ω) := gdS (ix_nI hi (by omega))
    have sp := sp_TV_told (a := nI i) w1 k
    rw [e1] at sp
    refine xri sp ?_
    rintro v k2 ⟨e, w2, fr2⟩
    cases e
    refine xcl_ (sp_TV_mixed _ _ k2) ?_
    have ih := ih k2 (frm_tr fr1 fr2 (Nat.le_refl _) (Nat.le_refl _)) w2
    unfold fI2 at ih
    rw [← nI_1 i] at ih
    exact ih
