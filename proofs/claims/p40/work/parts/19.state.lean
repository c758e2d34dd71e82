/-! State, History, Text -/
abbrev Sv : Type := Nat × (Nat → Nat) × (Nat → Nat → Nat) × Pv
abbrev sN (σ : Sv) : Nat := σ.1
abbrev sS (σ : Sv) : Nat → Nat := σ.2.1
abbrev sR (σ : Sv) : Nat → Nat → Nat := σ.2.2.1
abbrev sP (σ : Sv) : Pv := σ.2.2.2
def sok (σ : Sv) : Prop := 2 ≤ sN σ ∧ sN σ ≤ 7 ∧ (∀ i, i < sN σ → sS σ i < 4) ∧ (∀ r, r < 6 → PM (sN σ) (sR σ r)) ∧ pok (sN σ) (sP σ)
def isState (h : xHp) (a : Nat) (σ : Sv) : Prop :=
  xat h a (xob 5 [.int (nI (sN σ)), .int (R (nrm (sN σ) (sS σ))), .ref (a + 1), .ref (a + 2)]) ∧ (∃ f, xat h (a + 1) (xia 6 f) ∧ ∀ r, r < 6 → f r = R (nrm (sN σ) (sR σ r))) ∧ isPoem h (a + 2) (sN σ) (sP σ)
def shState (h : xHp) (a : Nat) : Prop := ∃ (n s : Int32) (f : Nat → Int32), xat h a (xob 5 [.int n, .int s, .ref (a + 1), .ref (a + 2)]) ∧ xat h (a + 1) (xia 6 f) ∧ shPoem h (a + 2)
theorem isState.sh {h : xHp} {a : Nat} {σ : Sv} (hs : isState h a σ) : shState h a := by
  obtain ⟨h0, ⟨f, h1, -⟩, h2⟩ := hs
  exact ⟨_, _, f, h0, h1, h2.sh⟩
theorem isState.fr {h h' : xHp} {a lo hi : Nat} {σ : Sv} (hs : isState h a σ) (f : frm h h' lo hi) (hd : a + 7 ≤ lo ∨ hi ≤ a) : isState h' a σ := by
  obtain ⟨h0, ⟨g, h1, r1⟩, h2⟩ := hs
  exact ⟨xat_fr h0 f (by omega), ⟨g, xat_fr h1 f (by omega), r1⟩, h2.fr f (by omega)⟩
theorem shState.fr {h h' : xHp} {a lo hi : Nat} (hs : shState h a) (f : frm h h' lo hi) (hd : a + 7 ≤ lo ∨ hi ≤ a) : shState h' a := by
  obtain ⟨n, s, g, h0, h1, h2⟩ := hs
  exact ⟨n, s, g, xat_fr h0 f (by omega), xat_fr h1 f (by omega), h2.fr f (by omega)⟩
def pv0 : Pv := (0, fun _ _ => 0, fun _ => 0, 0, fun _ => 0, fun _ _ => 0)
/-- a state as at first -/
def st0 (n : Nat) : Sv := (n, fun i => i % 4, fun _ i => i, pv0)
theorem frm_up {h h' : xHp} {lo hi lo' hi' : Nat} (f : frm h h' lo hi) (h1 : lo' ≤ lo) (h3 : hi ≤ hi') : frm h h' lo' hi' := frm_wd f h1 h3
theorem n_mod4 {a : Nat} (ha : a < 2147483648) : nI a - nI a / nI 4 * nI 4 = nI (a % 4) := pk_rem ha (by omega) (by omega)
theorem n_ne4 : ¬ nI 4 = 0 := nI_ne0 (by omega) (by omega)
theorem n_mod8 {a : Nat} (ha : a < 2147483648) : nI a - nI a / nI 8 * nI 8 = nI (a % 8) := pk_rem ha (by omega) (by omega)
theorem n_ne8 : ¬ nI 8 = 0 := nI_ne0 (by omega) (by omega)
theorem sp_Sta_startWith {h : xHp} {a n : Nat} (hn : n ≤ 7) (hs : shState h a) : SpecR g_Sta_startWith [.ref a, .int (nI n)] h (fun v h' => v = none ∧ isState h' a (st0 n) ∧ frm h h' a (a + 7)) := by
  obtain ⟨n0, s0, f, h0, h1, h2⟩ := hs
  refine SpecR.of (by decide +kernel) (Nat.le_of_ble_eq_true rfl) (fun c hc => by cases hc; exact ⟨_, _, _, rfl, h0⟩) (fun v h' z => ⟨z.1, z.2.2.1, z.2.2.2.1⟩) (fun Q hQ => ?_)
  refine xgoal [(12, [0, 2])] 100 ok_Sta_startWith ?_
  refine xpf h0 (Nat.le_of_ble_eq_true rfl) rfl ?_
  refine xpf (xat_sf h0.1) (Nat.le_of_ble_eq_true rfl) rfl ?_
  refine up_loop (P := fun i => ∀ h1' : xHp, frm h h1' a (a + 1) → xat h1' a (xob 5 [.int (nI n), .int (R (nrm i (fun i => i % 4))), .ref (a + 1), .ref (a + 2)]) → xAt (h.1, h.2.1) g_Sta_startWith Q 12 [(0, .ref a), (2, .int (nI i))] [] h1') n ?_ (fun i hi ih => ?_) 0 (Nat.zero_le _) _ (frm_set (frm_set frm_rf (by omega) (by omega)) (by omega) (by omega)) (xat_sf (h := xset _ _ _) h0.1)
  · intro k fr k0
    refine xgoal [(12, [0, 2])] 100 ok_Sta_startWith ?_
    refine xgf k0 rfl ?_
    refine pk_le n n (fun c => ?_) (fun c => absurd c (by omega))
    have k1 : xat k (a + 1) (xia 6 f) := xat_fr h1 fr (by omega)
    refine xgf k0 rfl ?_
    refine xgf k0 rfl ?_
    refine xci (sp_Row_ascending hn k) ?_
    refine xcv_ (sp_JA_fill (R (nrm n (fun i => i))) k1 (by decide)) ?_
    have h2' : shPoem (xset k (a + 1) (xia 6 (fil (R (nrm n (fun i => i))) 6 f))) (a + 2) := (h2.fr fr (by omega)).fr (frm_set (lo := a + 1) (hi := a + 2) frm_rf (by omega) (by omega)) (by omega)
    have k0' : xat (xset k (a + 1) (xia 6 (fil (R (nrm n (fun i => i))) 6 f))) a _ := xat_set k0 (by omega)
    refine xgf k0' rfl ?_
    refine xrv (sp_Poem_empty n h2') ?_
    rintro h' ⟨-, ep, fr2⟩
    refine hQ _ _ ⟨rfl, ⟨xat_fr k0' fr2 (by omega), ⟨_, xat_fr (xat_self _ k1) fr2 (by omega), fun r hr => ?_⟩, ep pv0 rfl rfl⟩, frm_tr (frm_set (frm_wd fr (by omega) (by omega)) (by omega) (by omega)) fr2 (by omega) (by omega)⟩
    unfold fil
    rw [if_pos hr]
    rfl
  · intro k fr k0
    refine xgoal [(12, [0, 2])] 100 ok_Sta_startWith ?_
    refine xgf k0 rfl ?_
    refine pk_le n i (fun c => absurd c (by omega)) (fun c => ?_)
    refine xgf k0 rfl ?_
    refine And.intro n_ne4 ?_
    have sp := sp_Row_with (f := nrm i (fun i => i % 4)) (i := i) (v := i % 4) (nrm_b8 (fun i _ => by omega)) (by omega) (by omega) k
    rw [R_push, ← n_mod4 (by omega)] at sp
    refine xci sp ?_
    refine xpf k0 (Nat.le_of_ble_eq_true rfl) rfl ?_
    have ih := ih _ (frm_set fr (Nat.le_refl _) (by omega)) (xat_sf k0.1)
    rw [← nI_1 i] at ih
    exact ih
theorem sp_Sta_copyFrom {h : xHp} {a b : Nat} {σ : Sv} (hp : shState h a) (hb : isState h b σ) (hk : sok σ) (hd : a + 7 ≤ b ∨ b + 7 ≤ a) : SpecR g_Sta_copyFrom [.ref a, .ref b] h (fun v h' => v = none ∧ isState h' a σ ∧ frm h h' a (a + 7)) := by
  obtain ⟨n, s, f, h0, h1, h2⟩ := hp
  obtain ⟨b0, ⟨g, b1, r1⟩, b2⟩ := hb
  refine SpecR.of (by decide +kernel) (Nat.le_of_ble_eq_true rfl) (fun c hc => by cases hc; exact ⟨_, _, _, rfl, h0⟩) (fun v h' z => ⟨z.1, z.2.2.1, z.2.2.2.1⟩) (fun Q hQ => ?_)
  refine xgoal [] 100 ok_Sta_copyFrom ?_
  refine xgf b0 rfl ?_
  refine xpf h0 (Nat.le_of_ble_eq_true rfl) rfl ?_
  refine xgf (xat_set b0 (by omega)) rfl ?_
  refine xpf (xat_sf h0.1) (Nat.le_of_ble_eq_true rfl) rfl ?_
  have k0 : ∀ {e e' : xE}, xat (xset (xset h a e) a e') a e' := fun {e e'} => xat_sf h0.1
  have kb : ∀ {c : Nat} {e0 e e' : xE}, xat h c e0 → c ≠ a → xat (xset (xset h a e) a e') c e0 := fun {c e0 e e'} q z => xat_set (xat_set q z) z
  refine xgf (kb b0 (by omega)) rfl ?_
  refine xgf k0 rfl ?_
  refine xcp (kb b1 (by omega)) (kb h1 (by omega)) rfl rfl rfl (by decide) (by decide) (by decide) (by decide) ?_
  refine xgf (xat_set k0 (by omega)) rfl ?_
  refine xgf (xat_set (kb b0 (by omega)) (by omega)) rfl ?_
  have fr0 : ∀ {e e' e2 : xE}, frm h (xset (xset (xset h a e) a e') (a + 1) e2) a (a + 2) := fun {e e' e2} => frm_set (frm_set (frm_set frm_rf (by omega) (by omega)) (by omega) (by omega)) (by omega) (by omega)
  refine xrv (sp_Poem_copyFrom (h2.fr fr0 (by omega)) (b2.fr fr0 (by omega)) (by omega)) ?_
  rintro h' ⟨-, ep, fr2⟩
  refine hQ _ _ ⟨rfl, ⟨xat_fr (xat_set k0 (by omega)) fr2 (by omega), ⟨_, xat_fr (xat_sf (h := xset (xset _ _ _) _ _) h1.1) fr2 (by omega), fun r hr => ?_⟩, ep ⟨hk.2.2.2.2.1, hk.2.2.2.2.2.2.2.1⟩⟩, frm_tr (frm_wd fr0 (Nat.le_refl _) (by omega)) fr2 (by omega) (by omega)⟩
  rw [cpy0 hr]
  exact r1 r hr
/-! the remembered states, the latest first -/
def isHist (h : xHp) (b : Nat) (l : List Sv) : Prop :=
  l.length ≤ 8 ∧ ∃ x, x < 8 ∧ xat h b (xob 1 [.int (nI l.length), .int (nI x), .ref (b + 1)]) ∧ (∃ f, xat h (b + 1) (xra 8 f) ∧ ∀ j, j < 8 → f j = some (b + 2 + 7 * j)) ∧ (∀ j, j < 8 → shState h (b + 2 + 7 * j)) ∧ ∀ i σ, l[i]? = some σ → isState h (b + 2 + 7 * ((x + 7 - i) % 8)) σ
theorem isHist.fr {h h' : xHp} {b lo hi : Nat} {l : List Sv} (hs : isHist h b l) (f : frm h h' lo hi) (hd : b + 58 ≤ lo ∨ hi ≤ b) : isHist h' b l := by
  obtain ⟨hl, x, hx, h0, ⟨g, h1, r1⟩, h2, h3⟩ := hs
  refine ⟨hl, x, hx, xat_fr h0 f (by omega), ⟨g, xat_fr h1 f (by omega), r1⟩, fun j hj => (h2 j hj).fr f (by omega), fun i σ hi => (h3 i σ hi).fr f ?_⟩
  have : (x + 7 - i) % 8 < 8 := Nat.mod_lt _ (by decide)
  omega
theorem sp_Hist_remember {h : xHp} {a b : Nat} {σ : Sv} {l : List Sv} (hp : isHist h b l) (hs : isState h a σ) (hk : sok σ) (hd : a + 7 ≤ b) : SpecR g_Hist_remember [.ref b, .ref a] h (fun v h' => v = none ∧ isHist h' b ((σ :: l).take 8) ∧ frm h h' b (b + 58)) := by
  obtain ⟨hl, x, hx, h0, ⟨f, h1, r1⟩, h2, h3⟩ := hp
  refine SpecR.of (by decide +kernel) (Nat.le_of_ble_eq_true rfl) (fun c hc => by cases hc; exact ⟨_, _, _, rfl, h0⟩) (fun v h' z => ⟨z.1, z.2.2.1, z.2.2.2.1⟩) (fun Q hQ => ?_)
  refine xgoal [] 100 ok_Hist_remember ?_
  refine xgf h0 rfl ?_
  refine xgf h0 rfl ?_
  refine xra_ h1 rfl hx (by decide) (r1 x hx) ?_
  refine xrv (sp_Sta_copyFrom (h2 x hx) hs hk (by omega)) ?_
  rintro h' ⟨-, ep, fr⟩
  have k0 := xat_fr h0 fr (by omega)
  have k1 := xat_fr h1 fr (by omega)
  refine xgf k0 rfl ?_
  refine And.intro n_ne8 ?_
  refine xpf k0 (Nat.le_of_ble_eq_true rfl) rfl ?_
  refine xgf (xat_sf k0.1) rfl ?_
  refine xpf (xat_sf k0.1) (Nat.le_of_ble_eq_true rfl) rfl ?_
  have e1 : (nI x + nI 1) - (nI x + nI 1) / nI 8 * nI 8 = nI ((x + 1) % 8) := by rw [nI_add, n_mod8 (by omega)]
  have e2 : (if nI 8 < nI l.length + nI 1 then nI 8 else nI l.length + nI 1) = nI ((σ :: l).take 8).length := by
    rw [nI_add, nI_min (by omega) (by omega)]
    rw [List.length_take, List.length_cons, Nat.min_comm]
  have hb2 : ∀ j, j < 8 → j ≠ x → b + 2 + 7 * j + 7 ≤ b + 2 + 7 * x ∨ b + 2 + 7 * x + 7 ≤ b + 2 + 7 * j := fun j _ hj => by omega
  refine hQ _ _ ⟨rfl, ⟨by rw [List.length_take]; omega, (x + 1) % 8, Nat.mod_lt _ (by decide), ?_, ⟨f, xat_set (xat_set k1 (by omega)) (by omega), r1⟩, fun j hj => ?_, fun i τ hi => ?_⟩, frm_set (frm_set (frm_wd fr (by omega) (by omega)) (by omega) (by omega)) (by omega) (by omega)⟩
  · rw [← e1, ← e2]
    exact xat_sf (h := xset _ _ _) k0.1
  · refine shState.fr (lo := b) (hi := b + 1) (h := h') ?_ (frm_set (frm_set frm_rf (by omega) (by omega)) (by omega) (by omega)) (by omega)
    by_cases e : j = x
    · subst e; exact ep.sh
    · exact (h2 j hj).fr fr (hb2 j hj e)
  · have hi8 : i < 8 := by
      have := (List.getElem?_eq_some_iff.mp hi).1
      rw [List.length_take] at this
      omega
    refine isState.fr (lo := b) (hi := b + 1) (h := h') ?_ (frm_set (frm_set frm_rf (by omega) (by omega)) (by omega) (by omega)) (by omega)
    rw [List.getElem?_take, if_pos hi8] at hi
    cases i with
    | zero =>
      rw [List.getElem?_cons_zero] at hi
      cases hi
      rw [show ((x + 1) % 8 + 7 - 0) % 8 = x by omega]
      exact ep
    | succ i =>
      rw [List.getElem?_cons_succ] at hi
      rw [show ((x + 1) % 8 + 7 - (i + 1)) % 8 = (x + 7 - i) % 8 by omega]
      exact (h3 i τ hi).fr fr (hb2 _ (Nat.mod_lt _ (by decide)) (by omega))
theorem sp_Hist_restore {h : xHp} {a b : Nat} {σ : Sv} {l : List Sv} (hp : isHist h b (σ :: l)) (hs : shState h a) (hk : sok σ) (hd : a + 7 ≤ b) : SpecR g_Hist_restore [.ref b, .ref a] h (fun v h' => v = none ∧ isHist h' b l ∧ isState h' a σ ∧ frm h h' a (b + 58) ∧ ∀ c, a + 7 ≤ c → c < b → h'.2.2 c = h.2.2 c) := by
  obtain ⟨hl, x, hx, h0, ⟨f, h1, r1⟩, h2, h3⟩ := hp
  rw [List.length_cons] at hl h0
  refine SpecR.of (by decide +kernel) (Nat.le_of_ble_eq_true rfl) (fun c hc => by cases hc; exact ⟨_, _, _, rfl, h0⟩) (fun v h' z => ⟨z.1, z.2.2.2.1.1, z.2.2.2.1.2.1⟩) (fun Q hQ => ?_)
  refine xgoal [] 100 ok_Hist_restore ?_
  refine xgf h0 rfl ?_
  refine pk_le (l.length + 1) 0 (fun c => absurd c (by omega)) (fun c => ?_)
  refine xgf h0 rfl ?_
  refine And.intro n_ne8 ?_
  have e1 : (nI x + nI 8 - nI 1) - (nI x + nI 8 - nI 1) / nI 8 * nI 8 = nI ((x + 7) % 8) := by rw [nI_add, pk_sub (by omega), n_mod8 (by omega), show x + 8 - 1 = x + 7 by omega]
  have e2 : nI (l.length + 1) - nI 1 = nI l.length := by rw [pk_sub (by omega)]; rfl
  have hx7 : (x + 7) % 8 < 8 := Nat.mod_lt _ (by decide)
  refine xpf h0 (Nat.le_of_ble_eq_true rfl) rfl ?_
  refine xgf (xat_sf h0.1) rfl ?_
  refine xpf (xat_sf h0.1) (Nat.le_of_ble_eq_true rfl) rfl ?_
  refine xgf (xat_sf (h := xset _ _ _) h0.1) rfl ?_
  refine xgf (xat_sf (h := xset _ _ _) h0.1) rfl ?_
  refine xra_ (xat_set (xat_set h1 (by omega)) (by omega)) e1 hx7 (by decide) (r1 _ hx7) ?_
  have fr0 : ∀ {e e' : xE}, frm h (xset (xset h b e) b e') b (b + 1) := fun {e e'} => frm_set (frm_set frm_rf (by omega) (by omega)) (by omega) (by omega)
  have s3 := h3 0 σ rfl
  rw [show (x + 7 - 0) % 8 = (x + 7) % 8 from rfl] at s3
  refine xrv (sp_Sta_copyFrom (hs.fr fr0 (by omega)) (s3.fr fr0 (by omega)) hk (by omega)) ?_
  rintro h' ⟨-, ep, fr⟩
  refine hQ _ _ ⟨rfl, ⟨by omega, (x + 7) % 8, hx7, ?_, ⟨f, xat_fr (xat_fr h1 fr0 (by omega)) fr (by omega), r1⟩, fun j hj => ((h2 j hj).fr fr0 (by omega)).fr fr (by omega), fun i τ hi => ?_⟩, ep, frm_tr (frm_wd fr0 (by omega) (by omega)) fr (by omega) (by omega), fun c hc1 hc2 => (fr.2.2 c (by omega)).trans (fr0.2.2 c (by omega))⟩
  · rw [← e1, ← e2]
    exact xat_fr (xat_sf (h := xset _ _ _) h0.1) fr (by omega)
  · have := h3 (i + 1) τ (by rw [List.getElem?_cons_succ]; exact hi)
    have hi8 : i < 7 := by
      have := (List.getElem?_eq_some_iff.mp hi).1
      omega
    rw [show ((x + 7) % 8 + 7 - i) % 8 = (x + 7 - (i + 1)) % 8 by
      by_cases e : x = 0
      · subst e; omega
      · rw [show (x + 7) % 8 = x - 1 by omega, show x - 1 + 7 - i = x + 7 - (i + 1) by omega]]
    exact (this.fr fr0 (by omega)).fr fr (by omega)
/-! the text -/
def isText (h : xHp) (c n : Nat) (t : Nat → Nat) : Prop := n ≤ 80 ∧ xat h c (xob 6 [.int (nI n), .ref (c + 1)]) ∧ ∃ f, xat h (c + 1) (xia 80 f) ∧ ∀ i, i < n → f i = nI (t i)
theorem isText.fr {h h' : xHp} {c n lo hi : Nat} {t : Nat → Nat} (hs : isText h c n t) (f : frm h h' lo hi) (hd : c + 2 ≤ lo ∨ hi ≤ c) : isText h' c n t := by
  obtain ⟨hl, h0, ⟨g, h1, r1⟩⟩ := hs
  exact ⟨hl, xat_fr h0 f (by omega), g, xat_fr h1 f (by omega), r1⟩
/-- the byte at a place; 0 behind the end -/
def tb (n : Nat) (t : Nat → Nat) (i : Nat) : Nat := if i < n then t i else 0
