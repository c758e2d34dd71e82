/-! THE REFERENCE: states on the page -/
def pg (F : Nat → Int32) (o : Nat) (σ : Sv) : Prop :=
  F o = nI (sN σ) ∧ (∀ i, i < sN σ → F (o + 1 + i) = nI (sS σ i)) ∧ (∀ r, r < 6 → ∀ i, i < sN σ → F (o + 8 + 7 * r + i) = nI (sR σ r i)) ∧ F (o + 50) = nI (pc (sP σ)) ∧
  (∀ s, s < pc (sP σ) → ∀ i, i < sN σ → F (o + 51 + 7 * s + i) = nI (pst (sP σ) s i)) ∧ (∀ s, s < pc (sP σ) → ∀ i, i < sN σ → F (o + 107 + 7 * s + i) = nI (plk (sP σ) s / 2 ^ i % 2)) ∧
  F (o + 163) = nI (ptl (sP σ)) ∧ (∀ l, l < ptl (sP σ) → F (o + 164 + l) = nI (ptn (sP σ) l)) ∧ ∀ l, l < ptl (sP σ) → ∀ k, k < ptn (sP σ) l → F (o + 168 + 3 * l + k) = nI (ptw (sP σ) l k)
theorem pg_mv {F F' : Nat → Int32} {o o' : Nat} {σ : Sv} (hk : sok σ) (h : ∀ x, x < 180 → F' (o' + x) = F (o + x)) (p : pg F o σ) : pg F' o' σ := by
  obtain ⟨hn1, hn, hS, hG, hP⟩ := hk
  obtain ⟨k1, k2, k3, k4, k5, k6⟩ := hP
  obtain ⟨p1, p2, p3, p4, p5, p6, p7, p8, p9⟩ := p
  refine ⟨(h 0 (by omega)).trans p1, fun i hi => ?_, fun r hr i hi => ?_, (h 50 (by omega)).trans p4, fun s hs i hi => ?_, fun s hs i hi => ?_, (h 163 (by omega)).trans p7, fun l hl => ?_, fun l hl k hk => ?_⟩
  · have := h (1 + i) (by omega)
    rw [← Nat.add_assoc, ← Nat.add_assoc] at this
    exact this.trans (p2 i hi)
  · have := h (8 + 7 * r + i) (by omega)
    rw [← Nat.add_assoc, ← Nat.add_assoc, ← Nat.add_assoc, ← Nat.add_assoc] at this
    exact this.trans (p3 r hr i hi)
  · have := h (51 + 7 * s + i) (by omega)
    rw [← Nat.add_assoc, ← Nat.add_assoc, ← Nat.add_assoc, ← Nat.add_assoc] at this
    exact this.trans (p5 s hs i hi)
  · have := h (107 + 7 * s + i) (by omega)
    rw [← Nat.add_assoc, ← Nat.add_assoc, ← Nat.add_assoc, ← Nat.add_assoc] at this
    exact this.trans (p6 s hs i hi)
  · have := h (164 + l) (by omega)
    rw [← Nat.add_assoc, ← Nat.add_assoc] at this
    exact this.trans (p8 l hl)
  · have h3 := (k5 l hl).2
    have := h (168 + 3 * l + k) (by omega)
    rw [← Nat.add_assoc, ← Nat.add_assoc, ← Nat.add_assoc, ← Nat.add_assoc] at this
    exact this.trans (p9 l hl k hk)
def pgs (F : Nat → Int32) (l : List Sv) : Prop := l.length ≤ 8 ∧ ∀ j τ, l[j]? = some τ → pg F (180 * (l.length - j)) τ
/-- how long the scratch rows are -/
def scN (c : Nat) : Nat := match c with
  | 6 => 5040
  | 7 => 5040
  | 8 => 130
  | 9 => 49
  | 10 => 128
  | 13 => 12
  | _ => 7
def scr (h : xHp) (B : Nat) : Prop := ∀ c, 3 ≤ c → c ≤ 13 → ∃ g, xat h (B + c) (xia (scN c) g)
theorem scr.fr {h h' : xHp} {B lo hi : Nat} (s : scr h B) (f : frm h h' lo hi) (hd : B + 14 ≤ lo ∨ hi ≤ B + 3) : scr h' B := fun c c1 c2 => by
  obtain ⟨g, g1⟩ := s c c1 c2
  exact ⟨g, xat_fr g1 f (by omega)⟩
theorem scr.at {h h' : xHp} {B c : Nat} (s : scr h B) (f : frm h h' (B + c) (B + c + 1)) (hx : ∃ g, xat h' (B + c) (xia (scN c) g)) : scr h' B := fun d d1 d2 => by
  by_cases e : d = c
  · subst e; exact hx
  · obtain ⟨g, g1⟩ := s d d1 d2
    exact ⟨g, xat_fr g1 f (by omega)⟩
/-- the reference's object, with its page and its text -/
def isMF (h : xHp) (B : Nat) (ω : Wv) (F tx : Nat → Int32) : Prop :=
  (∃ lines mw spot, xat h B (obM B (nI ω.2.1.length) (nI (wT ω)) lines mw spot)) ∧ xat h (B + 1) (xia 1620 F) ∧ (pg F 0 ω.1 ∧ pgs F ω.2.1) ∧ (xat h (B + 2) (xia 80 tx) ∧ ∀ i, i < wT ω → tx i = nI (wt ω i)) ∧ scr h B
def isM (h : xHp) (B : Nat) (ω : Wv) : Prop := ∃ F tx, isMF h B ω F tx
def pM (h : xHp) (B : Nat) (o : Int32 × Wv) : Option Value → xHp → Prop := fun v h' => v = some (.int o.1) ∧ isM h' B o.2 ∧ frm h h' B (B + 14)
theorem isMF.b {h : xHp} {B : Nat} {ω : Wv} {F tx : Nat → Int32} (w : isMF h B ω F tx) : bM h B (wN ω) F := by
  obtain ⟨⟨lines, mw, spot, w0⟩, w1, ⟨w2, -⟩, -⟩ := w
  exact ⟨⟨_, _, lines, mw, spot, w0⟩, w1, w2.1⟩
theorem isMF.sc {h h' : xHp} {B c : Nat} {ω : Wv} {F tx : Nat → Int32} (w : isMF h B ω F tx) (f : frm h h' (B + c) (B + c + 1)) (hc : 3 ≤ c) (hx : ∃ g, xat h' (B + c) (xia (scN c) g)) : isMF h' B ω F tx := by
  obtain ⟨⟨lines, mw, spot, w0⟩, w1, w2, ⟨w3, w4⟩, w5⟩ := w
  exact ⟨⟨lines, mw, spot, xat_fr w0 f (by omega)⟩, xat_fr w1 f (by omega), w2, ⟨xat_fr w3 f (by omega), w4⟩, w5.at f hx⟩
theorem isMF.pgw {h h' : xHp} {B : Nat} {ω : Wv} {σ : Sv} {F F' tx : Nat → Int32} (w : isMF h B ω F tx) (f : frm h h' (B + 1) (B + 2)) (hx : xat h' (B + 1) (xia 1620 F')) (hp : pg F' 0 σ) (hs : pgs F' ω.2.1) : isMF h' B (σ, ω.2) F' tx := by
  obtain ⟨⟨lines, mw, spot, w0⟩, w1, w2, ⟨w3, w4⟩, w5⟩ := w
  exact ⟨⟨lines, mw, spot, xat_fr w0 f (by omega)⟩, hx, ⟨hp, hs⟩, ⟨xat_fr w3 f (by omega), w4⟩, w5.fr f (by omega)⟩
theorem isMF.rw_ {h : xHp} {B c : Nat} {ω : Wv} {F tx : Nat → Int32} (w : isMF h B ω F tx) (h1 : 3 ≤ c) (h2 : c ≤ 5) : shRw h (B + c) := by
  obtain ⟨g, g1⟩ := w.2.2.2.2 c h1 (by omega)
  have : scN c = 7 := by
    have : c = 3 ∨ c = 4 ∨ c = 5 := by omega
    rcases this with e | e | e <;> rw [e] <;> rfl
  rw [this] at g1
  exact ⟨g, g1⟩
theorem isMF.rg {h : xHp} {B : Nat} {ω : Wv} {F tx : Nat → Int32} (w : isMF h B ω F tx) {r : Nat} (hr : r < 6) : ∀ i, i < wN ω → F (8 + 7 * r + i) = nI (wG ω r i) := fun i hi => by
  have := w.2.2.1.1.2.2.1 r hr i hi
  rw [Nat.zero_add] at this
  exact this
theorem pgs_mv {F F' : Nat → Int32} {l : List Sv} (hk : ∀ τ, τ ∈ l → sok τ) (h : ∀ x, 180 ≤ x → F' x = F x) (p : pgs F l) : pgs F' l := ⟨p.1, fun j τ hj => by
  have hlt := (List.getElem?_eq_some_iff.mp hj).1
  exact pg_mv (hk τ (List.mem_of_getElem? hj)) (fun x hx => h _ (by omega)) (p.2 j τ hj)⟩
theorem take_mem {σ : Sv} {l : List Sv} {τ : Sv} (hσ : sok σ) (hl : ∀ τ, τ ∈ l → sok τ) (h : τ ∈ (σ :: l).take 8) : sok τ := by
  rcases List.mem_cons.mp (List.mem_of_mem_take h) with e | e
  · rw [e]; exact hσ
  · exact hl τ e
theorem wS_ok {ω : Wv} {σ : Sv} (k : wok ω) (hσ : sok σ) : wok (wS ω σ) := ⟨hσ, fun τ h => take_mem k.1 k.2.1 h, k.2.2⟩
theorem rcd_ok {ω : Wv} (k : wok ω) : wok (rcd ω) := ⟨k.1, fun τ h => take_mem k.1 k.2.1 h, k.2.2⟩
theorem sp_Mo_recordsO {h : xHp} {B : Nat} {ω : Wv} {F tx : Nat → Int32} {lines mw spot : Int32} (o : xat h B (obM B (nI ω.2.1.length) (nI (wT ω)) lines mw spot)) (w : isMF h B ω F tx) (k : wok ω) : SpecR g_Mo_records [.ref B] h (fun v h' => v = none ∧ (∃ F', isMF h' B (rcd ω) F' tx ∧ ∀ x, x < 180 → F' x = F x) ∧ frm h h' B (B + 2) ∧ xat h' B (obM B (nI (rcd ω).2.1.length) (nI (wT ω)) lines mw spot)) := by
  have w0 := o
  obtain ⟨-, w1, ⟨w2, w8, w9⟩, ⟨w3, w4⟩, w5⟩ := w
  have w0' : xat h B (xob 9 [.ref (B + 1), .int (nI ω.2.1.length), .ref (B + 2), .int (nI (wT ω)), .ref (B + 3), .ref (B + 4), .ref (B + 5), .ref (B + 6), .ref (B + 7), .int lines, .ref (B + 8), .int mw, .int spot, .ref (B + 9), .ref (B + 10), .ref (B + 11), .ref (B + 12), .ref (B + 13)]) := w0
  refine SpecR.of (by decide +kernel) (Nat.le_of_ble_eq_true rfl) (fun c hc => by cases hc; exact ⟨_, _, _, rfl, w0⟩) (fun v h' z => ⟨z.1, z.2.2.1.1, z.2.2.1.2.1⟩) (fun Q hQ => ?_)
  -- the copy of the present state
  have at64 : ∀ (k1 : xHp) (F1 : Nat → Int32) (m : Nat), 1 ≤ m → m ≤ 8 → m = ((ω.1 :: ω.2.1).take 8).length → frm h k1 B (B + 2) → xat k1 B (obM B (nI m) (nI (wT ω)) lines mw spot) → xat k1 (B + 1) (xia 1620 F1) → (∀ x, x < 180 → F1 x = F x) → (∀ j τ, ((ω.1 :: ω.2.1).take 8)[j + 1]? = some τ → pg F1 (180 * (m - (j + 1))) τ) → xAt (h.1, h.2.1) g_Mo_records Q 64 [(0, .ref B), (1, .int (nI 0))] [] k1 := by
    intro k1 F1 m hm1 hm8 hml fr1 k10 k11 hF1 hpg
    refine up_loop (P := fun x => ∀ (k2 : xHp) (F2 : Nat → Int32), frm h k2 B (B + 2) → xat k2 B (obM B (nI m) (nI (wT ω)) lines mw spot) → xat k2 (B + 1) (xia 1620 F2) → (∀ y, y < x → F2 (180 * m + y) = F y) → (∀ y, y < 180 * m → F2 y = F1 y) → xAt (h.1, h.2.1) g_Mo_records Q 64 [(0, .ref B), (1, .int (nI x))] [] k2) 180 ?_ (fun x hx ih => ?_) 0 (Nat.zero_le _) k1 F1 fr1 k10 k11 (fun y hy => absurd hy (Nat.not_lt_zero y)) (fun _ _ => rfl)
    · intro k2 F2 fr2 k20 k21 h1 h2
      refine xgoal [(64, [0, 1])] 100 ok_Mo_records ?_
      refine pk_le 180 180 (fun _ => ?_) (fun z => absurd z (by omega))
      refine hQ _ _ ⟨rfl, ⟨F2, ⟨⟨lines, mw, spot, by rw [show (rcd ω).2.1.length = m from hml.symm]; exact k20⟩, k21, ⟨pg_mv (o := 0) k.1 (fun y hy => by rw [Nat.zero_add, h2 y (by omega), hF1 y hy]) w2, ⟨by show ((ω.1 :: ω.2.1).take 8).length ≤ 8; omega, fun j τ hj => ?_⟩⟩, ⟨xat_fr w3 fr2 (by omega), w4⟩, w5.fr fr2 (by omega)⟩, fun y hy => by rw [h2 y (by omega), hF1 y hy]⟩, fr2, by rw [show (rcd ω).2.1.length = m from hml.symm]; exact k20⟩
      have hj : ((ω.1 :: ω.2.1).take 8)[j]? = some τ := hj
      rw [show (rcd ω).2.1.length = m from hml.symm]
      cases j with
      | zero =>
        rw [List.getElem?_take, if_pos (by omega), List.getElem?_cons_zero] at hj
        cases hj
        rw [Nat.sub_zero]
        exact pg_mv (o := 0) k.1 (fun y hy => by rw [h1 y hy, Nat.zero_add]) w2
      | succ j =>
        have hlt := (List.getElem?_eq_some_iff.mp hj).1
        exact pg_mv (take_mem k.1 k.2.1 (List.mem_of_getElem? hj)) (fun y hy => h2 _ (by omega)) (hpg j τ hj)
    · intro k2 F2 fr2 k20 k21 h1 h2
      refine xgoal [(64, [0, 1])] 100 ok_Mo_records ?_
      refine pk_le 180 x (fun z => absurd z (by omega)) (fun _ => ?_)
      refine xgf k20 rfl ?_
      refine xgf k20 rfl ?_
      refine xgf k20 rfl ?_
      refine xal k21 rfl (show x < 1620 by omega) (by decide) ?_
      have ei : nI 180 * nI m + nI x = nI (180 * m + x) := by rw [n_mul, nI_add]
      refine xal k21 ei (show 180 * m + x < 1620 by omega) (by decide) ?_
      have ih := ih (xset k2 (B + 1) (xia 1620 (upd F2 (180 * m + x) (F2 x)))) _ (frm_set fr2 (by omega) (by omega)) (xat_set k20 (by omega)) (xat_sf k21.1) (fun y hy => by
        unfold upd
        by_cases e : y = x
        · rw [if_pos (by omega), h2 x (by omega), hF1 x hx, e]
        · rw [if_neg (by omega)]; exact h1 y (by omega)) (fun y hy => by
        unfold upd
        rw [if_neg (by omega)]; exact h2 y hy)
      rw [← nI_1 x] at ih
      exact ih
  refine xgoal [(13, [0, 1]), (64, [0, 1])] 100 ok_Mo_records ?_
  refine xgf w0' rfl ?_
  refine pk_eq ω.2.1.length 8 (fun c => ?_) (fun c => ?_)
  · have hl8 : ((ω.1 :: ω.2.1).take 8).length = 8 := by rw [List.length_take, List.length_cons]; omega
    refine up_loop (P := fun x => 180 ≤ x → ∀ (k2 : xHp) (F2 : Nat → Int32), frm h k2 (B + 1) (B + 2) → xat k2 (B + 1) (xia 1620 F2) → (∀ y, 180 ≤ y → y < x → F2 y = F (y + 180)) → (∀ y, (y < 180 ∨ x ≤ y) → F2 y = F y) → xAt (h.1, h.2.1) g_Mo_records Q 13 [(0, .ref B), (1, .int (nI x))] [] k2) 1440 ?_ (fun x hx ih => ?_) 180 (by omega) (Nat.le_refl _) h F frm_rf w1 (fun y h1 h2 => absurd h2 (by omega)) (fun _ _ => rfl)
    · intro _ k2 F2 fr2 k21 h1 h2
      have k20 := xat_fr w0' fr2 (by omega)
      refine xgoal [(64, [0, 1])] 100 ok_Mo_records ?_
      refine pk_le 1440 1440 (fun _ => ?_) (fun z => absurd z (by omega))
      refine xgf k20 rfl ?_
      refine xpf k20 (Nat.le_of_ble_eq_true rfl) rfl ?_
      refine xgf (xat_sf k20.1) rfl ?_
      refine xpf (xat_sf k20.1) (Nat.le_of_ble_eq_true rfl) rfl ?_
      refine at64 _ F2 8 (by omega) (by omega) hl8.symm (frm_set (frm_set (frm_wd fr2 (by omega) (by omega)) (by omega) (by omega)) (by omega) (by omega)) ?_ (xat_set (xat_set k21 (by omega)) (by omega)) (fun y hy => h2 y (by omega)) (fun j τ hj => ?_)
      · have e : nI ω.2.1.length - nI 1 + nI 1 = nI 8 := by rw [c]; decide
        show xat _ B (xob 9 [_, .int (nI 8), _, _, _, _, _, _, _, _, _, _, _, _, _, _, _, _])
        rw [← e]
        exact xat_sf (h := xset _ _ _) k20.1
      · have hlt := (List.getElem?_eq_some_iff.mp hj).1
        rw [hl8] at hlt
        rw [List.getElem?_take, if_pos (by omega), List.getElem?_cons_succ] at hj
        have := w9 j τ hj
        rw [c] at this
        exact pg_mv (k.2.1 τ (List.mem_of_getElem? hj)) (fun y hy => by
          rw [h1 _ (by omega) (by omega)]
          congr 1
          omega) this
    · intro hx1 k2 F2 fr2 k21 h1 h2
      have k20 := xat_fr w0' fr2 (by omega)
      refine xgoal [(13, [0, 1]), (64, [0, 1])] 100 ok_Mo_records ?_
      refine pk_le 1440 x (fun z => absurd z (by omega)) (fun _ => ?_)
      refine xgf k20 rfl ?_
      refine xgf k20 rfl ?_
      refine xal k21 (nI_add x 180) (show x + 180 < 1620 by omega) (by decide) ?_
      refine xal k21 rfl (show x < 1620 by omega) (by decide) ?_
      have ih := ih (by omega) (xset k2 (B + 1) (xia 1620 (upd F2 x (F2 (x + 180))))) _ (frm_set fr2 (by omega) (by omega)) (xat_sf k21.1) (fun y g1 g2 => by
        unfold upd
        by_cases e : y = x
        · rw [if_pos e, e]; exact h2 _ (by omega)
        · rw [if_neg e]; exact h1 y g1 (by omega)) (fun y hy => by
        unfold upd
        rw [if_neg (by omega)]; exact h2 y (by omega))
      rw [← nI_1 x] at ih
      exact ih
  · have hl : ((ω.1 :: ω.2.1).take 8).length = ω.2.1.length + 1 := by rw [List.length_take, List.length_cons]; omega
    refine xgf w0' rfl ?_
    refine xpf w0' (Nat.le_of_ble_eq_true rfl) rfl ?_
    refine at64 _ F (ω.2.1.length + 1) (by omega) (by omega) hl.symm (frm_set frm_rf (by omega) (by omega)) ?_ (xat_set w1 (by omega)) (fun _ _ => rfl) (fun j τ hj => ?_)
    · show xat _ B (xob 9 [_, .int (nI (ω.2.1.length + 1)), _, _, _, _, _, _, _, _, _, _, _, _, _, _, _, _])
      rw [← nI_1 ω.2.1.length]
      exact xat_sf w0'.1
    · have hlt := (List.getElem?_eq_some_iff.mp hj).1
      rw [hl] at hlt
      rw [List.getElem?_take, if_pos (by omega), List.getElem?_cons_succ] at hj
      have := w9 j τ hj
      rw [show ω.2.1.length + 1 - (j + 1) = ω.2.1.length - j by omega]
      exact this
theorem n_mod7 {a : Nat} (ha : a < 2147483648) : nI a - nI a / nI 7 * nI 7 = nI (a % 7) := pk_rem ha (by omega) (by omega)
theorem n_ne7 : ¬ nI 7 = 0 := nI_ne0 (by omega) (by omega)
theorem sp_Mo_resets {h : xHp} {B m : Nat} {F : Nat → Int32} (hb : ∃ rem typed lines mw spot, xat h B (obM B rem typed lines mw spot)) (hF : xat h (B + 1) (xia 1620 F)) : SpecR g_Mo_resets [.ref B, .int (nI m)] h (fun v h' => v = none ∧ (∃ F', xat h' (B + 1) (xia 1620 F') ∧ F' 0 = nI m ∧ (∀ x, x < 7 → F' (1 + x) = nI (x % 4)) ∧ (∀ x, x < 42 → F' (8 + x) = nI (x % 7)) ∧ ∀ x, 50 ≤ x → F' x = F x) ∧ frm h h' (B + 1) (B + 2)) := by
  obtain ⟨rem, typed, lines, mw, spot, b0⟩ := hb
  refine SpecR.of (by decide +kernel) (Nat.le_of_ble_eq_true rfl) (fun c hc => by cases hc; exact ⟨_, _, _, rfl, b0⟩) (fun v h' z => ⟨z.1, z.2.2.1, z.2.2.2.1⟩) (fun Q hQ => ?_)
  refine xgoal [(9, [0, 2]), (34, [0, 2])] 100 ok_Mo_resets ?_
  refine xgf b0 rfl ?_
  refine xal hF rfl (show 0 < 1620 by omega) (by decide) ?_
  refine up_loop (P := fun i => ∀ (k : xHp) (F1 : Nat → Int32), frm h k (B + 1) (B + 2) → xat k (B + 1) (xia 1620 F1) → F1 0 = nI m → (∀ x, x < i → F1 (1 + x) = nI (x % 4)) → (∀ x, 50 ≤ x → F1 x = F x) → xAt (h.1, h.2.1) g_Mo_resets Q 9 [(0, .ref B), (2, .int (nI i))] [] k) 7 ?_ (fun i hi ih => ?_) 0 (Nat.zero_le _) (xset h (B + 1) (xia 1620 (upd F 0 (nI m)))) (upd F 0 (nI m)) (frm_set frm_rf (by omega) (by omega)) (xat_sf hF.1) (by unfold upd; rw [if_pos rfl]) (fun x hx => absurd hx (Nat.not_lt_zero x)) (fun x hx => by unfold upd; rw [if_neg (by omega)])
  · intro k F1 fr k1 h1 h2 h3
    refine xgoal [(34, [0, 2])] 100 ok_Mo_resets ?_
    refine pk_le 7 7 (fun _ => ?_) (fun z => absurd z (by omega))
    refine up_loop (P := fun i => ∀ (k : xHp) (F1 : Nat → Int32), frm h k (B + 1) (B + 2) → xat k (B + 1) (xia 1620 F1) → F1 0 = nI m → (∀ x, x < 7 → F1 (1 + x) = nI (x % 4)) → (∀ x, x < i → F1 (8 + x) = nI (x % 7)) → (∀ x, 50 ≤ x → F1 x = F x) → xAt (h.1, h.2.1) g_Mo_resets Q 34 [(0, .ref B), (2, .int (nI i))] [] k) 42 ?_ (fun i hi ih => ?_) 0 (Nat.zero_le _) k F1 fr k1 h1 h2 (fun x hx => absurd hx (Nat.not_lt_zero x)) h3
    · intro k F1 fr k1 h1 h2 h3 h4
      refine xgoal [(34, [0, 2])] 100 ok_Mo_resets ?_
      exact pk_le 42 42 (fun _ => hQ _ _ ⟨rfl, ⟨F1, k1, h1, h2, h3, h4⟩, fr⟩) (fun z => absurd z (by omega))
    · intro k F1 fr k1 h1 h2 h3 h4
      refine xgoal [(34, [0, 2])] 100 ok_Mo_resets ?_
      refine pk_le 42 i (fun z => absurd z (by omega)) (fun _ => ?_)
      refine xgf (xat_fr b0 fr (by omega)) rfl ?_
      refine And.intro n_ne7 ?_
      refine xal k1 (nI_add 8 i) (show 8 + i < 1620 by omega) (by decide) ?_
      have ih := ih (xset k (B + 1) (xia 1620 (upd F1 (8 + i) (nI i - nI i / nI 7 * nI 7)))) _ (frm_set fr (by omega) (by omega)) (xat_sf k1.1) (by unfold upd; rw [if_neg (by omega)]; exact h1) (fun x hx => by unfold upd; rw [if_neg (by omega)]; exact h2 x hx) (fun x hx => by
        unfold upd
        by_cases e : x = i
        · rw [if_pos (by omega), e, n_mod7 (by omega)]
        · rw [if_neg (by omega)]; exact h3 x (by omega)) (fun x hx => by unfold upd; rw [if_neg (by omega)]; exact h4 x hx)
      rw [← nI_1 i] at ih
      exact ih
  · intro k F1 fr k1 h1 h2 h3
    refine xgoal [(9, [0, 2]), (34, [0, 2])] 100 ok_Mo_resets ?_
    refine pk_le 7 i (fun z => absurd z (by omega)) (fun _ => ?_)
    refine xgf (xat_fr b0 fr (by omega)) rfl ?_
    refine And.intro n_ne4 ?_
    refine xal k1 (nI_add 1 i) (show 1 + i < 1620 by omega) (by decide) ?_
    have ih := ih (xset k (B + 1) (xia 1620 (upd F1 (1 + i) (nI i - nI i / nI 4 * nI 4)))) _ (frm_set fr (by omega) (by omega)) (xat_sf k1.1) (by unfold upd; rw [if_neg (by omega)]; exact h1) (fun x hx => by
      unfold upd
      by_cases e : x = i
      · rw [if_pos (by omega), e, n_mod4 (by omega)]
      · rw [if_neg (by omega)]; exact h2 x (by omega)) (fun x hx => by unfold upd; rw [if_neg (by omega)]; exact h3 x hx)
    rw [← nI_1 i] at ih
    exact ih
theorem sp_Mo_empties {h : xHp} {B : Nat} {F : Nat → Int32} (hb : ∃ rem typed lines mw spot, xat h B (obM B rem typed lines mw spot)) (hF : xat h (B + 1) (xia 1620 F)) : SpecR g_Mo_empties [.ref B] h (fun v h' => v = none ∧ (∃ F', xat h' (B + 1) (xia 1620 F') ∧ (∀ x, 50 ≤ x → x < 180 → F' x = nI 0) ∧ ∀ x, (x < 50 ∨ 180 ≤ x) → F' x = F x) ∧ frm h h' (B + 1) (B + 2)) := by
  obtain ⟨rem, typed, lines, mw, spot, b0⟩ := hb
  refine SpecR.of (by decide +kernel) (Nat.le_of_ble_eq_true rfl) (fun c hc => by cases hc; exact ⟨_, _, _, rfl, b0⟩) (fun v h' z => ⟨z.1, z.2.2.1, z.2.2.2.1⟩) (fun Q hQ => ?_)
  refine xgoal [(3, [0, 1])] 100 ok_Mo_empties ?_
  refine up_loop (P := fun i => 50 ≤ i → ∀ (k : xHp) (F1 : Nat → Int32), frm h k (B + 1) (B + 2) → xat k (B + 1) (xia 1620 F1) → (∀ x, 50 ≤ x → x < i → F1 x = nI 0) → (∀ x, (x < 50 ∨ 180 ≤ x) → F1 x = F x) → xAt (h.1, h.2.1) g_Mo_empties Q 3 [(0, .ref B), (1, .int (nI i))] [] k) 180 ?_ (fun i hi ih => ?_) 50 (by omega) (Nat.le_refl _) h F frm_rf hF (fun x h1 h2 => absurd h2 (by omega)) (fun _ _ => rfl)
  · intro _ k F1 fr k1 h1 h2
    refine xgoal [(3, [0, 1])] 100 ok_Mo_empties ?_
    exact pk_le 180 180 (fun _ => hQ _ _ ⟨rfl, ⟨F1, k1, h1, h2⟩, fr⟩) (fun z => absurd z (by omega))
  · intro hi50 k F1 fr k1 h1 h2
    refine xgoal [(3, [0, 1])] 100 ok_Mo_empties ?_
    refine pk_le 180 i (fun z => absurd z (by omega)) (fun _ => ?_)
    refine xgf (xat_fr b0 fr (by omega)) rfl ?_
    refine xal k1 rfl (show i < 1620 by omega) (by decide) ?_
    have ih := ih (by omega) (xset k (B + 1) (xia 1620 (upd F1 i (nI 0)))) _ (frm_set fr (by omega) (by omega)) (xat_sf k1.1) (fun x g1 g2 => by
      unfold upd
      by_cases e : x = i
      · rw [if_pos e]
      · rw [if_neg e]; exact h1 x g1 (by omega)) (fun x hx => by unfold upd; rw [if_neg (by omega)]; exact h2 x hx)
    rw [← nI_1 i] at ih
    exact ih
