/-! HEAPS: frames; Rhymes; Poem -/
theorem xat_sf {h : xHp} {a : Nat} {e : xE} (ha : a < h.1) : xat (xset h a e) a e := ⟨ha, va_up_self h.2.2 a e⟩
/-- only cells from lo to hi have changed, none is new -/
def frm (h h' : xHp) (lo hi : Nat) : Prop := h'.1 = h.1 ∧ h'.2.1 = h.2.1 ∧ ∀ b, (b < lo ∨ hi ≤ b) → h'.2.2 b = h.2.2 b
theorem frm_rf {h : xHp} {lo hi : Nat} : frm h h lo hi := ⟨rfl, rfl, fun _ _ => rfl⟩
theorem frm_set {h h' : xHp} {lo hi a : Nat} {e : xE} (f : frm h h' lo hi) (h1 : lo ≤ a) (h2 : a < hi) : frm h (xset h' a e) lo hi :=
  ⟨f.1, f.2.1, fun b hb => (va_up_ne h'.2.2 e (show b ≠ a by omega)).trans (f.2.2 b hb)⟩
theorem frm_tr {h h' h2 : xHp} {lo hi lo' hi' : Nat} (f : frm h h' lo hi) (g : frm h' h2 lo' hi') (h1 : lo ≤ lo') (h3 : hi' ≤ hi) : frm h h2 lo hi :=
  ⟨g.1.trans f.1, g.2.1.trans f.2.1, fun b hb => (g.2.2 b (by omega)).trans (f.2.2 b hb)⟩
theorem frm_wd {h h' : xHp} {lo hi lo' hi' : Nat} (f : frm h h' lo hi) (h1 : lo' ≤ lo) (h3 : hi ≤ hi') : frm h h' lo' hi' := ⟨f.1, f.2.1, fun b hb => f.2.2 b (by omega)⟩
theorem xat_fr {h h' : xHp} {lo hi a : Nat} {e : xE} (ha : xat h a e) (f : frm h h' lo hi) (h1 : a < lo ∨ hi ≤ a) : xat h' a e := ⟨by rw [f.1]; exact ha.1, (f.2.2 a h1).trans ha.2⟩
theorem xcp {h : xHp} {a0 a n0 n1 jn jd js : Nat} {f f1 : Nat → Int32} {n dp sp : Int32} {P : Nat → (Nat → Int32) → Nat → (Nat → Int32) → Nat → Nat → Nat → Prop} (ha0 : xat h a0 (xia n0 f)) (ha : xat h a (xia n1 f1)) (e1 : n = nI jn) (e2 : dp = nI jd) (e3 : sp = nI js) (b1 : js + jn ≤ n0) (b2 : jd + jn ≤ n1) (b3 : n0 < 100000) (b4 : n1 < 100000) (p : P n0 f n1 f1 jn jd js) : ∃ n0 f n1 f1 jn jd js, xat h a0 (xia n0 f) ∧ xat h a (xia n1 f1) ∧ n = nI jn ∧ dp = nI jd ∧ sp = nI js ∧ js + jn ≤ n0 ∧ jd + jn ≤ n1 ∧ n0 < 100000 ∧ n1 < 100000 ∧ P n0 f n1 f1 jn jd js := ⟨n0, f, n1, f1, jn, jd, js, ha0, ha, e1, e2, e3, b1, b2, b3, b4, p⟩
theorem cpy0 {f g : Nat → Int32} {n j : Nat} (h : j < n) : va_cpy f g 0 0 n j = f j := by
  unfold va_cpy
  rw [if_pos ⟨Nat.zero_le _, by omega⟩, Nat.zero_add, Nat.sub_zero]
/-! a poem: count, stanzas, locks (masks), lines of the tail, their lengths, their words -/
abbrev Pv : Type := Nat × (Nat → Nat → Nat) × (Nat → Nat) × Nat × (Nat → Nat) × (Nat → Nat → Nat)
abbrev pc (p : Pv) : Nat := p.1
abbrev pst (p : Pv) : Nat → Nat → Nat := p.2.1
abbrev plk (p : Pv) : Nat → Nat := p.2.2.1
abbrev ptl (p : Pv) : Nat := p.2.2.2.1
abbrev ptn (p : Pv) : Nat → Nat := p.2.2.2.2.1
abbrev ptw (p : Pv) : Nat → Nat → Nat := p.2.2.2.2.2
def pok (n : Nat) (p : Pv) : Prop := pc p ≤ 8 ∧ (∀ s, s < pc p → ∀ i, i < n → pst p s i < n) ∧ (∀ s, s < pc p → plk p s < 2 ^ n) ∧ ptl p ≤ 4 ∧ (∀ l, l < ptl p → 1 ≤ ptn p l ∧ ptn p l ≤ 3) ∧ ∀ l, l < ptl p → ∀ k, k < ptn p l → ptw p l k < n
def isPoem (h : xHp) (a n : Nat) (p : Pv) : Prop :=
  xat h a (xob 2 [.int (nI (pc p)), .int (nI (ptl p)), .ref (a + 1), .ref (a + 2), .ref (a + 3), .ref (a + 4)]) ∧
  (∃ f, xat h (a + 1) (xia 8 f) ∧ ∀ s, s < pc p → f s = R (nrm n (pst p s))) ∧ (∃ f, xat h (a + 2) (xia 8 f) ∧ ∀ s, s < pc p → f s = nI (plk p s)) ∧
  (∃ f, xat h (a + 3) (xia 4 f) ∧ ∀ l, l < ptl p → f l = R (nrm (ptn p l) (ptw p l))) ∧ ∃ f, xat h (a + 4) (xia 4 f) ∧ ∀ l, l < ptl p → f l = nI (ptn p l)
def shPoem (h : xHp) (a : Nat) : Prop := ∃ (c t : Int32) (f1 f2 f3 f4 : Nat → Int32), xat h a (xob 2 [.int c, .int t, .ref (a + 1), .ref (a + 2), .ref (a + 3), .ref (a + 4)]) ∧ xat h (a + 1) (xia 8 f1) ∧ xat h (a + 2) (xia 8 f2) ∧ xat h (a + 3) (xia 4 f3) ∧ xat h (a + 4) (xia 4 f4)
theorem isPoem.sh {h : xHp} {a n : Nat} {p : Pv} (hp : isPoem h a n p) : shPoem h a := by
  obtain ⟨h0, ⟨f1, h1, -⟩, ⟨f2, h2, -⟩, ⟨f3, h3, -⟩, ⟨f4, h4, -⟩⟩ := hp
  exact ⟨_, _, f1, f2, f3, f4, h0, h1, h2, h3, h4⟩
theorem isPoem.fr {h h' : xHp} {a n lo hi : Nat} {p : Pv} (hp : isPoem h a n p) (f : frm h h' lo hi) (hd : a + 5 ≤ lo ∨ hi ≤ a) : isPoem h' a n p := by
  obtain ⟨h0, ⟨f1, h1, r1⟩, ⟨f2, h2, r2⟩, ⟨f3, h3, r3⟩, ⟨f4, h4, r4⟩⟩ := hp
  exact ⟨xat_fr h0 f (by omega), ⟨f1, xat_fr h1 f (by omega), r1⟩, ⟨f2, xat_fr h2 f (by omega), r2⟩, ⟨f3, xat_fr h3 f (by omega), r3⟩, ⟨f4, xat_fr h4 f (by omega), r4⟩⟩
theorem shPoem.fr {h h' : xHp} {a lo hi : Nat} (hp : shPoem h a) (f : frm h h' lo hi) (hd : a + 5 ≤ lo ∨ hi ≤ a) : shPoem h' a := by
  obtain ⟨c, t, f1, f2, f3, f4, h0, h1, h2, h3, h4⟩ := hp
  exact ⟨c, t, f1, f2, f3, f4, xat_fr h0 f (by omega), xat_fr h1 f (by omega), xat_fr h2 f (by omega), xat_fr h3 f (by omega), xat_fr h4 f (by omega)⟩
theorem sp_Poem_empty {h : xHp} {a : Nat} (n : Nat) (hp : shPoem h a) : SpecR g_Poem_empty [.ref a] h (fun v h' => v = none ∧ (∀ p : Pv, pc p = 0 → ptl p = 0 → isPoem h' a n p) ∧ frm h h' a (a + 5)) := by
  obtain ⟨c, t, f1, f2, f3, f4, h0, h1, h2, h3, h4⟩ := hp
  refine SpecR.of (by decide +kernel) (Nat.le_of_ble_eq_true rfl) (fun c hc => by cases hc; exact ⟨_, _, _, rfl, h0⟩) (fun v h' z => ⟨z.1, z.2.2.1, z.2.2.2.1⟩) (fun Q hQ => ?_)
  refine xgoal [] 100 ok_Poem_empty ?_
  refine xpf h0 (Nat.le_of_ble_eq_true rfl) rfl ?_
  refine xpf (xat_sf h0.1) (Nat.le_of_ble_eq_true rfl) rfl ?_
  refine hQ _ _ ⟨rfl, fun p e1 e2 => ?_, frm_set (frm_set frm_rf (Nat.le_refl _) (by omega)) (Nat.le_refl _) (by omega)⟩
  refine ⟨?_, ⟨f1, xat_set (xat_set h1 (by omega)) (by omega), fun s hs => by omega⟩, ⟨f2, xat_set (xat_set h2 (by omega)) (by omega), fun s hs => by omega⟩, ⟨f3, xat_set (xat_set h3 (by omega)) (by omega), fun s hs => by omega⟩, ⟨f4, xat_set (xat_set h4 (by omega)) (by omega), fun s hs => by omega⟩⟩
  rw [e1, e2]
  exact xat_sf h0.1
theorem sp_Poem_copyFrom {h : xHp} {a b n : Nat} {p : Pv} (hp : shPoem h a) (hb : isPoem h b n p) (hd : a + 5 ≤ b ∨ b + 5 ≤ a) : SpecR g_Poem_copyFrom [.ref a, .ref b] h (fun v h' => v = none ∧ ((pc p ≤ 8 ∧ ptl p ≤ 4) → isPoem h' a n p) ∧ frm h h' a (a + 5)) := by
  obtain ⟨c, t, f1, f2, f3, f4, h0, h1, h2, h3, h4⟩ := hp
  obtain ⟨b0, ⟨g1, b1, r1⟩, ⟨g2, b2, r2⟩, ⟨g3, b3, r3⟩, ⟨g4, b4, r4⟩⟩ := hb
  refine SpecR.of (by decide +kernel) (Nat.le_of_ble_eq_true rfl) (fun c hc => by cases hc; exact ⟨_, _, _, rfl, h0⟩) (fun v h' z => ⟨z.1, z.2.2.1, z.2.2.2.1⟩) (fun Q hQ => ?_)
  refine xgoal [] 100 ok_Poem_copyFrom ?_
  refine xgf b0 rfl ?_
  refine xpf h0 (Nat.le_of_ble_eq_true rfl) rfl ?_
  refine xgf (xat_set b0 (by omega)) rfl ?_
  refine xpf (xat_sf h0.1) (Nat.le_of_ble_eq_true rfl) rfl ?_
  have k0 : ∀ {e e' : xE}, xat (xset (xset h a e) a e') a e' := fun {e e'} => xat_sf h0.1
  have kb : ∀ {c : Nat} {e0 e e' : xE}, xat h c e0 → c ≠ a → xat (xset (xset h a e) a e') c e0 := fun {c e0 e e'} q z => xat_set (xat_set q z) z
  refine xgf (kb b0 (by omega)) rfl ?_
  refine xgf k0 rfl ?_
  refine xcp (kb b1 (by omega)) (kb h1 (by omega)) rfl rfl rfl (by decide) (by decide) (by decide) (by decide) ?_
  refine xgf (xat_set (kb b0 (by omega)) (by omega)) rfl ?_
  refine xgf (xat_set k0 (by omega)) rfl ?_
  refine xcp (xat_set (kb b2 (by omega)) (by omega)) (xat_set (kb h2 (by omega)) (by omega)) rfl rfl rfl (by decide) (by decide) (by decide) (by decide) ?_
  refine xgf (xat_set (xat_set (kb b0 (by omega)) (by omega)) (by omega)) rfl ?_
  refine xgf (xat_set (xat_set k0 (by omega)) (by omega)) rfl ?_
  refine xcp (xat_set (xat_set (kb b3 (by omega)) (by omega)) (by omega)) (xat_set (xat_set (kb h3 (by omega)) (by omega)) (by omega)) rfl rfl rfl (by decide) (by decide) (by decide) (by decide) ?_
  refine xgf (xat_set (xat_set (xat_set (kb b0 (by omega)) (by omega)) (by omega)) (by omega)) rfl ?_
  refine xgf (xat_set (xat_set (xat_set k0 (by omega)) (by omega)) (by omega)) rfl ?_
  refine xcp (xat_set (xat_set (xat_set (kb b4 (by omega)) (by omega)) (by omega)) (by omega)) (xat_set (xat_set (xat_set (kb h4 (by omega)) (by omega)) (by omega)) (by omega)) rfl rfl rfl (by decide) (by decide) (by decide) (by decide) ?_
  refine hQ _ _ ⟨rfl, fun hc => ⟨xat_set (xat_set (xat_set (xat_set k0 (by omega)) (by omega)) (by omega)) (by omega), ⟨_, xat_set (xat_set (xat_set (xat_sf h1.1) (by omega)) (by omega)) (by omega), fun s hs => ?_⟩, ⟨_, xat_set (xat_set (xat_sf h2.1) (by omega)) (by omega), fun s hs => ?_⟩, ⟨_, xat_set (xat_sf h3.1) (by omega), fun s hs => ?_⟩, ⟨_, xat_sf h4.1, fun s hs => ?_⟩⟩, frm_set (frm_set (frm_set (frm_set (frm_set (frm_set frm_rf (by omega) (by omega)) (by omega) (by omega)) (by omega) (by omega)) (by omega) (by omega)) (by omega) (by omega)) (by omega) (by omega)⟩
  · rw [cpy0 (by omega)]; exact r1 s hs
  · rw [cpy0 (by omega)]; exact r2 s hs
  · rw [cpy0 (by omega)]; exact r3 s hs
  · rw [cpy0 (by omega)]; exact r4 s hs
def padd (p : Pv) (f : Nat → Nat) : Pv := (pc p + 1, fun s => if s = pc p then f else pst p s, fun s => if s = pc p then 0 else plk p s, ptl p, ptn p, ptw p)
theorem sp_Poem_append {h : xHp} {a n : Nat} {p : Pv} {f : Nat → Nat} (hp : isPoem h a n p) (hc : pc p < 8) : SpecR g_Poem_append [.ref a, .int (R (nrm n f))] h (fun v h' => v = none ∧ isPoem h' a n (padd p f) ∧ frm h h' a (a + 5)) := by
  obtain ⟨h0, ⟨f1, h1, r1⟩, ⟨f2, h2, r2⟩, ⟨f3, h3, r3⟩, ⟨f4, h4, r4⟩⟩ := hp
  refine SpecR.of (by decide +kernel) (Nat.le_of_ble_eq_true rfl) (fun c hc => by cases hc; exact ⟨_, _, _, rfl, h0⟩) (fun v h' z => ⟨z.1, z.2.2.1, z.2.2.2.1⟩) (fun Q hQ => ?_)
  refine xgoal [] 100 ok_Poem_append ?_
  refine xgf h0 rfl ?_
  refine pk_le 8 (pc p) (fun c => absurd c (by omega)) (fun c => ?_)
  refine xgf h0 rfl ?_
  refine xgf h0 rfl ?_
  refine xal h1 rfl hc (by decide) ?_
  refine xgf (xat_set h0 (by omega)) rfl ?_
  refine xgf (xat_set h0 (by omega)) rfl ?_
  refine xal (xat_set h2 (by omega)) rfl hc (by decide) ?_
  refine xgf (xat_set (xat_set h0 (by omega)) (by omega)) rfl ?_
  refine xpf (xat_set (xat_set h0 (by omega)) (by omega)) (Nat.le_of_ble_eq_true rfl) rfl ?_
  refine hQ _ _ ⟨rfl, ⟨?_, ⟨_, xat_set (xat_set (xat_sf h1.1) (by omega)) (by omega), fun s hs => ?_⟩, ⟨_, xat_set (xat_sf (h := xset _ _ _) h2.1) (by omega), fun s hs => ?_⟩, ⟨f3, xat_set (xat_set (xat_set h3 (by omega)) (by omega)) (by omega), r3⟩, ⟨f4, xat_set (xat_set (xat_set h4 (by omega)) (by omega)) (by omega), r4⟩⟩, frm_set (frm_set (frm_set frm_rf (by omega) (by omega)) (by omega) (by omega)) (by omega) (by omega)⟩
  · rw [show pc (padd p f) = pc p + 1 from rfl, ← nI_1 (pc p)]
    exact xat_sf (h := xset _ _ _) h0.1
  · have hs : s < pc p + 1 := hs
    show upd f1 (pc p) _ s = R (nrm n (if s = pc p then f else pst p s))
    unfold upd
    by_cases e : s = pc p
    · rw [if_pos e, if_pos e]
    · rw [if_neg e, if_neg e]; exact r1 s (by omega)
  · have hs : s < pc p + 1 := hs
    show upd f2 (pc p) _ s = nI (if s = pc p then 0 else plk p s)
    unfold upd
    by_cases e : s = pc p
    · rw [if_pos e, if_pos e]
    · rw [if_neg e, if_neg e]; exact r2 s (by omega)
def ptadd (p : Pv) (m : Nat) (f : Nat → Nat) : Pv := (pc p, pst p, plk p, ptl p + 1, fun l => if l = ptl p then m else ptn p l, fun l => if l = ptl p then f else ptw p l)
theorem bms_congr {f g : Nat → Nat} : ∀ {n : Nat}, (∀ i, i < n → f i = g i) → bms f n = bms g n
  | 0, _ => rfl
  | n + 1, h => by
    unfold bms
    rw [bms_congr (n := n) (fun i hi => h i (by omega)), h n (by omega)]
/-- a proper stanza -/
def prop (n : Nat) (f : Nat → Nat) : Bool := decide (bms f n = 2 ^ n - 1)
theorem sp_hasEach {n : Nat} {f : Nat → Nat} (hn : n ≤ 7) (hf : ∀ i, i < n → f i < 8) (h : xHp) : Spec g_Row_hasEach [.int (R (nrm n f)), .int (nI n)] h (some (.int (nI (if prop n f = true then 1 else 0)))) h := by
  have sp := sp_Row_hasEach hn (nrm_b8 hf) h
  rw [bms_congr (g := f) (fun i hi => nrm_in hi)] at sp
  unfold prop
  by_cases c : bms f n = 2 ^ n - 1
  · rw [if_pos c] at sp; rw [if_pos (decide_eq_true c)]; exact sp
  · rw [if_neg c] at sp; rw [if_neg (by simpa using c)]; exact sp
theorem sp_Poem_properStanzas {h : xHp} {a n : Nat} {p : Pv} (hn : n ≤ 7) (hp : isPoem h a n p) (hk : pok n p) : Spec g_Poem_properStanzas [.ref a, .int (nI n)] h (some (.int (nI (ct (fun s => prop n (pst p s)) (pc p))))) h := by
  obtain ⟨h0, ⟨f1, h1, r1⟩, -⟩ := hp
  obtain ⟨k1, k2, -⟩ := hk
  refine Spec.of (by decide +kernel) (Nat.le_of_ble_eq_true rfl) ⟨_, rfl⟩ rfl rfl (fun c hc => by cases hc; exact ⟨_, _, _, rfl, h0⟩) (fun Q hQ => ?_)
  refine xgoal [(4, [0, 1, 2, 3])] 100 ok_Poem_properStanzas ?_
  refine up_loop (P := fun s => xAt (h.1, h.2.1) g_Poem_properStanzas Q 4 [(0, .ref a), (1, .int (nI n)), (2, .int (nI (ct (fun s => prop n (pst p s)) s))), (3, .int (nI s))] [] h) (pc p) ?_ (fun s hs ih => ?_) 0 (Nat.zero_le _)
  · refine xgoal [(4, [0, 1, 2, 3])] 100 ok_Poem_properStanzas ?_
    refine xgf h0 rfl ?_
    exact pk_le (pc p) (pc p) (fun c => hQ) (fun c => absurd c (by omega))
  · refine xgoal [(4, [0, 1, 2, 3])] 100 ok_Poem_properStanzas ?_
    refine xgf h0 rfl ?_
    refine pk_le (pc p) s (fun c => absurd c (by omega)) (fun c => ?_)
    refine xgf h0 rfl ?_
    refine xal h1 rfl (show s < 8 by omega) (by decide) ?_
    have sp := sp_hasEach (n := n) (f := pst p s) hn (fun i hi => by have := k2 s hs i hi; omega) h
    rw [← r1 s hs] at sp
    refine xci sp ?_
    unfold ct at ih
    by_cases e : prop n (pst p s) = true
    · rw [if_pos e, ← nI_1, ← nI_1 s] at ih
      exact pk_eq 1 0 (fun c => absurd c (by omega)) (fun c => ih) (by rw [if_pos e]) rfl
    · rw [if_neg e, ← nI_1 s] at ih
      exact pk_eq 0 0 (fun c => ih) (fun c => absurd rfl c) (by rw [if_neg e]) rfl
def sumN (f : Nat → Nat) : Nat → Nat
  | 0 => 0
  | n + 1 => sumN f n + f n
theorem sp_Poem_lockedPlaces {h : xHp} {a n : Nat} {p : Pv} (hn : n ≤ 7) (hp : isPoem h a n p) (hk : pok n p) : Spec g_Poem_lockedPlaces [.ref a] h (some (.int (nI (sumN (fun s => pop (plk p s)) (pc p))))) h := by
  obtain ⟨h0, -, ⟨f2, h2, r2⟩, -⟩ := hp
  obtain ⟨k1, -, k3, -⟩ := hk
  refine Spec.of (by decide +kernel) (Nat.le_of_ble_eq_true rfl) ⟨_, rfl⟩ rfl rfl (fun c hc => by cases hc; exact ⟨_, _, _, rfl, h0⟩) (fun Q hQ => ?_)
  refine xgoal [(4, [0, 1, 2])] 100 ok_Poem_lockedPlaces ?_
  refine up_loop (P := fun s => xAt (h.1, h.2.1) g_Poem_lockedPlaces Q 4 [(0, .ref a), (1, .int (nI (sumN (fun s => pop (plk p s)) s))), (2, .int (nI s))] [] h) (pc p) ?_ (fun s hs ih => ?_) 0 (Nat.zero_le _)
  · refine xgoal [(4, [0, 1, 2])] 100 ok_Poem_lockedPlaces ?_
    refine xgf h0 rfl ?_
    exact pk_le (pc p) (pc p) (fun c => hQ) (fun c => absurd c (by omega))
  · refine xgoal [(4, [0, 1, 2])] 100 ok_Poem_lockedPlaces ?_
    have h7 : 2 ^ n ≤ 2 ^ 7 := Nat.pow_le_pow_right (by omega) hn
    have := k3 s hs
    refine xgf h0 rfl ?_
    refine pk_le (pc p) s (fun c => absurd c (by omega)) (fun c => ?_)
    refine xgf h0 rfl ?_
    refine xal h2 rfl (show s < 8 by omega) (by decide) ?_
    have sp := sp_JI_bitCount (x := plk p s) (by omega) h
    rw [← r2 s hs] at sp
    refine xci sp ?_
    unfold sumN at ih
    rw [← nI_add, ← nI_1 s] at ih
    exact ih
/-- the words of the tail's first lines, as a mask -/
def wot (p : Pv) : Nat → Nat
  | 0 => 0
  | l + 1 => wot p l ||| bms (ptw p l) (ptn p l)
