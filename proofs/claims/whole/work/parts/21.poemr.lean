/-! PoemReader -/
def wbI (c m : Nat) : Int32 := if nI m ≤ nI c - nI 97 then -1 else nI c - nI 97
theorem wbI_ok : ∀ c, c < 128 → ∀ m, m < 8 → if 97 ≤ c ∧ c < 97 + m then wbI c m = nI (c - 97) else wbI c m < nI 0 := by decide +kernel
/-- whether there is one of m letters at a place -/
def wlb (T : Nat) (t : Nat → Nat) (m pos : Nat) : Bool := decide (97 ≤ tb T t pos ∧ tb T t pos < 97 + m)
/-- how many letters there are, up to k -/
def wct (T : Nat) (t : Nat → Nat) (m k pos : Nat) : Nat := sr (fun j => !wlb T t m (pos + j)) k 0
/-- whether a stanza is over at a place -/
def over (T : Nat) (t : Nat → Nat) (pos : Nat) : Bool := decide (tb T t pos = 47 ∨ tb T t pos = 59 ∨ tb T t pos = 0)
def ltr (t : Nat → Nat) (pos : Nat) : Nat → Nat := fun i => t (pos + i) - 97
def ptail (T : Nat) (t : Nat → Nat) (n : Nat) : Nat → Nat → Pv → Nat ⊕ (Nat × Pv)
  | 0, pos, p => .inr (pos, p)
  | k + 1, pos, p =>
    if wct T t n 3 (pos + 1) = 0 then .inl (pos + 1)
    else if k ≠ 0 ∧ tb T t (pos + 1 + wct T t n 3 (pos + 1)) = 44 then ptail T t n k (pos + 1 + wct T t n 3 (pos + 1)) (ptadd p (wct T t n 3 (pos + 1)) (ltr t (pos + 1)))
    else .inr (pos + 1 + wct T t n 3 (pos + 1), ptadd p (wct T t n 3 (pos + 1)) (ltr t (pos + 1)))
def pstz (T : Nat) (t : Nat → Nat) (n : Nat) : Nat → Nat → Pv → Nat ⊕ (Nat × Pv)
  | 0, pos, p => .inr (pos, p)
  | k + 1, pos, p =>
    if tb T t pos = 47 then
      if wct T t n n (pos + 1) < n then .inl (pos + 1 + wct T t n n (pos + 1))
      else if over T t (pos + 1 + n) = true then pstz T t n k (pos + 1 + n) (padd p (ltr t (pos + 1))) else .inl (pos + 1 + n)
    else .inr (pos, p)
def pfirst (T : Nat) (t : Nat → Nat) : Nat ⊕ Nat :=
  if wct T t 7 7 0 < 2 ∨ ¬ over T t (wct T t 7 7 0) = true then .inl (wct T t 7 7 0)
  else if sr (fun k => decide (wct T t 7 7 0 ≤ t k - 97)) (wct T t 7 7 0) 0 < wct T t 7 7 0 then .inl (sr (fun k => decide (wct T t 7 7 0 ≤ t k - 97)) (wct T t 7 7 0) 0)
  else .inr (wct T t 7 7 0)
def pfin (T : Nat) (n : Nat) : Nat ⊕ (Nat × Pv) → Nat ⊕ (Nat × Pv)
  | .inl f => .inl f
  | .inr (pos, p) => if pos < T then .inl pos else .inr (n, p)
def ptl4 (T : Nat) (t : Nat → Nat) (n : Nat) : Nat ⊕ (Nat × Pv) → Nat ⊕ (Nat × Pv)
  | .inl f => .inl f
  | .inr (pos, p) => if tb T t pos = 59 then ptail T t n 4 pos p else .inr (pos, p)
def pread (T : Nat) (t : Nat → Nat) : Nat ⊕ (Nat × Pv) :=
  match pfirst T t with
  | .inl f => .inl f
  | .inr L => pfin T L (ptl4 T t L (pstz T t L 7 L (padd pv0 (ltr t 0))))
def isPrd (h : xHp) (a : Nat) (n : Int32) (pos : Nat) : Prop := xat h a (xob 3 [.int n, .ref (a + 1), .int (nI pos)])
/-- the bytes of a text -/
def bok (T : Nat) (t : Nat → Nat) : Prop := T ≤ 80 ∧ ∀ i, i < T → 33 ≤ t i ∧ t i ≤ 126
theorem tb_lt {T : Nat} {t : Nat → Nat} (hb : bok T t) (pos : Nat) : tb T t pos < 128 := by
  unfold tb
  split
  · have := hb.2 pos (by assumption); omega
  · omega
theorem wlb_in {T pos m : Nat} {t : Nat → Nat} (h : wlb T t m pos = true) : pos < T ∧ 97 ≤ t pos ∧ t pos < 97 + m := by
  unfold wlb at h
  rw [decide_eq_true_eq] at h
  unfold tb at h
  by_cases c : pos < T
  · rw [if_pos c] at h; exact ⟨c, h⟩
  · rw [if_neg c] at h; omega
theorem wct_yes {T m k pos : Nat} {t : Nat → Nat} {j : Nat} (h : j < wct T t m k pos) : wlb T t m (pos + j) = true := by
  have := sr_no _ _ _ j (Nat.zero_le _) h
  simpa using this
theorem wct_le (T : Nat) (t : Nat → Nat) (m k pos : Nat) : wct T t m k pos ≤ k := by
  have := sr_le (fun j => !wlb T t m (pos + j)) k 0
  unfold wct; omega
theorem wct_T {T m k pos : Nat} {t : Nat → Nat} (h : pos ≤ T) : pos + wct T t m k pos ≤ T := by
  by_cases c : wct T t m k pos = 0
  · omega
  · have := wlb_in (wct_yes (T := T) (t := t) (m := m) (k := k) (pos := pos) (j := wct T t m k pos - 1) (by omega))
    omega
theorem sp_PR_wordBelow {h : xHp} {a c T m pos : Nat} {n : Int32} {t : Nat → Nat} (hp : isPrd h a n pos) (ht : isText h c T t) (hpos : pos < 1000) : Spec g_PR_wordBelow [.ref a, .ref c, .int (nI m)] h (some (.int (wbI (tb T t pos) m))) h := by
  have h0 : xat h a (xob 3 [.int n, .ref (a + 1), .int (nI pos)]) := hp
  refine Spec.of (by decide +kernel) (Nat.le_of_ble_eq_true rfl) ⟨_, rfl⟩ rfl rfl (fun c hc => by cases hc; exact ⟨_, _, _, rfl, h0⟩) (fun Q hQ => ?_)
  refine xgoal [] 100 ok_PR_wordBelow ?_
  refine xgf h0 rfl ?_
  refine xci (sp_Txt_byteAt ht hpos) ?_
  unfold wbI at hQ
  refine And.intro (fun c => ?_) (fun c => ?_)
  · rw [if_pos c] at hQ; exact hQ
  · rw [if_neg c] at hQ; exact hQ
theorem sp_PR_isStanzaOver {h : xHp} {a c T pos : Nat} {n : Int32} {t : Nat → Nat} (hp : isPrd h a n pos) (ht : isText h c T t) (hb : bok T t) (hpos : pos < 1000) : Spec g_PR_isStanzaOver [.ref a, .ref c] h (some (.int (nI (if over T t pos = true then 1 else 0)))) h := by
  have h0 : xat h a (xob 3 [.int n, .ref (a + 1), .int (nI pos)]) := hp
  have := tb_lt hb pos
  refine Spec.of (by decide +kernel) (Nat.le_of_ble_eq_true rfl) ⟨_, rfl⟩ rfl rfl (fun c hc => by cases hc; exact ⟨_, _, _, rfl, h0⟩) (fun Q hQ => ?_)
  refine xgoal [] 100 ok_PR_isStanzaOver ?_
  refine xgf h0 rfl ?_
  refine xci (sp_Txt_byteAt ht hpos) ?_
  unfold over at hQ
  refine pk_eq (tb T t pos) 47 (fun c => ?_) (fun c1 => ?_)
  · rw [if_pos (by simp [c])] at hQ; exact ⟨Or.inr rfl, hQ⟩
  refine pk_eq (tb T t pos) 59 (fun c => ?_) (fun c2 => ?_)
  · rw [if_pos (by simp [c])] at hQ; exact ⟨Or.inr rfl, hQ⟩
  refine pk_eq (tb T t pos) 0 (fun c => ?_) (fun c3 => ?_)
  · rw [if_pos (by simp [c])] at hQ; exact ⟨Or.inr rfl, hQ⟩
  · rw [if_neg (by simp [c1, c2, c3])] at hQ; exact ⟨Or.inl rfl, hQ⟩
theorem lt_nle {x : Int32} (h : x < nI 0) : ¬ nI 0 ≤ x := fun z => by
  rw [Int32.le_iff_toInt_le] at z
  rw [Int32.lt_iff_toInt_lt] at h
  omega
theorem tb_in {T pos : Nat} {t : Nat → Nat} (h : pos < T) : tb T t pos = t pos := if_pos h
/-- the answer of wordBelow -/
theorem wb_yes {T m pos : Nat} {t : Nat → Nat} (hb : bok T t) (hm : m < 8) (h : wlb T t m pos = true) : wbI (tb T t pos) m = nI (t pos - 97) ∧ t pos - 97 < m := by
  have h2 := wlb_in h
  have := wbI_ok _ (tb_lt hb pos) m hm
  rw [tb_in h2.1, if_pos h2.2] at this
  rw [tb_in h2.1]
  exact ⟨this, by omega⟩
theorem wb_no {T m pos : Nat} {t : Nat → Nat} (hb : bok T t) (hm : m < 8) (h : ¬ wlb T t m pos = true) : wbI (tb T t pos) m < nI 0 := by
  have := wbI_ok _ (tb_lt hb pos) m hm
  unfold wlb at h
  rw [if_neg (by simpa using h)] at this
  exact this
theorem sp_PR_readTailLine {h : xHp} {a c T n pos : Nat} {p : Pv} {t : Nat → Nat} (hn : n ≤ 7) (hp : isPrd h a (nI n) pos) (ht : isText h c T t) (hb : bok T t) (hpm : isPoem h (a + 1) n p) (hc : ptl p < 4) (hpos : pos < 500) (hd : a + 6 ≤ c ∨ c + 2 ≤ a) :
    SpecR g_PR_readTailLine [.ref a, .ref c] h (fun v h' => v = some (.int (nI (wct T t n 3 pos))) ∧ isPrd h' a (nI n) (pos + wct T t n 3 pos) ∧ isPoem h' (a + 1) n (ptadd p (wct T t n 3 pos) (ltr t pos)) ∧ frm h h' a (a + 6)) := by
  have h0 : xat h a (xob 3 [.int (nI n), .ref (a + 1), .int (nI pos)]) := hp
  refine SpecR.of (by decide +kernel) (Nat.le_of_ble_eq_true rfl) (fun c hc => by cases hc; exact ⟨_, _, _, rfl, h0⟩) (fun v h' z => ⟨⟨_, z.1⟩, z.2.2.2.1, z.2.2.2.2.1⟩) (fun Q hQ => ?_)
  have hw3 := wct_le T t n 3 pos
  generalize hw : wct T t n 3 pos = w at hQ hw3
  refine xgoal [(4, [0, 1, 2, 3])] 100 ok_PR_readTailLine ?_
  refine up_loop (P := fun j => ∀ k : xHp, frm h k a (a + 1) → isPrd k a (nI n) (pos + j) → w = sr (fun j => !wlb T t n (pos + j)) (3 - j) j →
      (∀ i, i < j → ltr t pos i < 8) → xAt (h.1, h.2.1) g_PR_readTailLine Q 4 [(0, .ref a), (1, .ref c), (2, .int (nI j)), (3, .int (R (nrm j (ltr t pos))))] [] k) 3 ?_ (fun j hj ih => ?_) 0 (Nat.zero_le _) h frm_rf hp hw.symm (fun i hi => absurd hi (Nat.not_lt_zero i))
  · intro k fr k0 he _
    have he : w = 3 := he
    subst he
    refine xgoal [(4, [0, 1, 2, 3])] 100 ok_PR_readTailLine ?_
    refine pk_le 3 3 (fun _ => ?_) (fun c => absurd c (by omega))
    refine xgf k0 rfl ?_
    refine xrv (sp_Poem_appendTailLine (hpm.fr fr (by omega)) hc) ?_
    rintro h' ⟨-, ep, fr2⟩
    exact hQ _ _ ⟨rfl, xat_fr k0 fr2 (by omega), ep, frm_tr (frm_wd fr (by omega) (by omega)) fr2 (by omega) (by omega)⟩
  · intro k fr k0 he h8
    rw [show 3 - j = (3 - (j + 1)) + 1 by omega] at he
    unfold sr at he
    refine xgoal [(4, [0, 1, 2, 3])] 100 ok_PR_readTailLine ?_
    refine pk_le 3 j (fun c => absurd c (by omega)) (fun _ => ?_)
    refine xgf k0 rfl ?_
    have sp := sp_PR_wordBelow (m := n) k0 (ht.fr fr (by omega)) (by omega)
    refine xci sp ?_
    by_cases hl : wlb T t n (pos + j) = true
    · rw [if_neg (by simp [hl])] at he
      obtain ⟨e1, e2⟩ := wb_yes hb (by omega) hl
      refine pk_lt (t (pos + j) - 97) 0 (fun c => absurd c (by omega)) (fun _ => ?_) e1 rfl
      refine xgf k0 rfl ?_
      refine xci sp ?_
      have sp2 := sp_Row_with (f := nrm j (ltr t pos)) (i := j) (v := ltr t pos j) (nrm_b8 h8) (by omega) (by unfold ltr; omega) k
      rw [R_push, show nI (ltr t pos j) = wbI (tb T t (pos + j)) n from e1.symm] at sp2
      refine xci sp2 ?_
      refine xgf k0 rfl ?_
      refine xpf k0 (Nat.le_of_ble_eq_true rfl) rfl ?_
      have ih := ih (xset k a (xob 3 [.int (nI n), .ref (a + 1), .int (nI (pos + j) + nI 1)])) (frm_set fr (Nat.le_refl _) (by omega)) (by unfold isPrd; rw [nI_add]; exact xat_sf k0.1) he (fun i hi => by
        by_cases e : i = j
        · subst e; unfold ltr; omega
        · exact h8 i (by omega))
      rw [← nI_1 j] at ih
      exact ih
    · rw [if_pos (by simp [hl])] at he
      subst he
      refine And.intro (fun _ => ?_) (fun c => absurd (wb_no hb (by omega) hl) c)
      refine xgf k0 rfl ?_
      refine xrv (sp_Poem_appendTailLine (hpm.fr fr (by omega)) hc) ?_
      rintro h' ⟨-, ep, fr2⟩
      exact hQ _ _ ⟨rfl, xat_fr k0 fr2 (by omega), ep, frm_tr (frm_wd fr (by omega) (by omega)) fr2 (by omega) (by omega)⟩
theorem sp_PR_readTail {h : xHp} {a c T n pos : Nat} {p : Pv} {t : Nat → Nat} (hn : n ≤ 7) (hp : isPrd h a (nI n) pos) (ht : isText h c T t) (hb : bok T t) (hpm : isPoem h (a + 1) n p) (hc : ptl p = 0) (hpos : pos < T) (hd : a + 6 ≤ c ∨ c + 2 ≤ a) :
    SpecR g_PR_readTail [.ref a, .ref c] h (fun v h' => (match ptail T t n 4 pos p with | .inl f => v = some (.int (nI f)) ∧ f ≤ 81 ∧ (∃ pos', isPrd h' a (nI n) pos') ∧ shPoem h' (a + 1) | .inr (pos', p') => v = some (.int (-1)) ∧ pos' ≤ T ∧ isPrd h' a (nI n) pos' ∧ isPoem h' (a + 1) n p') ∧ frm h h' a (a + 6)) := by
  have h0 : xat h a (xob 3 [.int (nI n), .ref (a + 1), .int (nI pos)]) := hp
  have hT := hb.1
  generalize hX : ptail T t n 4 pos p = X
  refine SpecR.of (by decide +kernel) (Nat.le_of_ble_eq_true rfl) (fun c hc => by cases hc; exact ⟨_, _, _, rfl, h0⟩) (fun v h' z => ⟨?_, z.2.1, z.2.2.1⟩) (fun Q hQ => ?_)
  · have z := z.1
    split at z
    · exact ⟨_, z.1⟩
    · exact ⟨_, z.1⟩
  refine xgoal [(2, [0, 1, 2])] 100 ok_PR_readTail ?_
  refine up_loop (P := fun l => ∀ (k : xHp) (pos : Nat) (p : Pv), l < 4 → frm h k a (a + 6) → isPrd k a (nI n) pos → pos < T → isPoem k (a + 1) n p → ptl p = l → X = ptail T t n (4 - l) pos p → xAt (h.1, h.2.1) g_PR_readTail Q 2 [(0, .ref a), (1, .ref c), (2, .int (nI l))] [] k) 4 (fun k pos p h4 => absurd h4 (by omega)) (fun l hl ih => ?_) 0 (Nat.zero_le _) h pos p (by omega) frm_rf hp hpos hpm hc hX.symm
  intro k pos p _ fr k0 hpos kp hl2 he
  rw [show 4 - l = (3 - l) + 1 by omega] at he
  unfold ptail at he
  have hw3 := wct_le T t n 3 (pos + 1)
  have hwT := wct_T (T := T) (t := t) (m := n) (k := 3) (pos := pos + 1) (by omega)
  have k0' : xat k a (xob 3 [.int (nI n), .ref (a + 1), .int (nI pos)]) := k0
  refine xgoal [(2, [0, 1, 2])] 100 ok_PR_readTail ?_
  refine xgf k0 rfl ?_
  refine xpf k0 (Nat.le_of_ble_eq_true rfl) rfl ?_
  have k1 : isPrd (xset k a (xob 3 [.int (nI n), .ref (a + 1), .int (nI pos + nI 1)])) a (nI n) (pos + 1) := by unfold isPrd; rw [nI_add]; exact xat_sf k0'.1
  have fr1 : frm k (xset k a (xob 3 [.int (nI n), .ref (a + 1), .int (nI pos + nI 1)])) a (a + 1) := frm_set frm_rf (by omega) (by omega)
  have fr1' := frm_tr fr fr1 (by omega) (by omega)
  refine xri (sp_PR_readTailLine hn k1 (ht.fr fr1' (by omega)) hb (kp.fr fr1 (by omega)) (by omega) (by omega) hd) ?_
  rintro r h' ⟨e, k2, ep, fr2⟩
  cases e
  have fr2' := frm_tr fr1' fr2 (by omega) (by omega)
  generalize wct T t n 3 (pos + 1) = w at he hw3 hwT k2 ep
  refine pk_eq w 0 (fun cw => ?_) (fun cw => ?_)
  · rw [if_pos cw] at he
    subst he
    refine xgf k2 rfl ?_
    rw [cw] at k2
    have hQ := hQ (some (.int (nI (pos + 1)))) h' ⟨⟨rfl, by omega, ⟨_, k2⟩, ep.sh⟩, fr2'⟩
    rw [cw]
    exact hQ
  · rw [if_neg cw] at he
    have k2' : xat h' a (xob 3 [.int (nI n), .ref (a + 1), .int (nI (pos + 1 + w))]) := k2
    refine pk_le 4 (l + 1) (fun c4 => ?_) (fun c4 => ?_) rfl (nI_1 l)
    · rw [if_neg (by omega)] at he
      subst he
      exact hQ _ _ ⟨⟨rfl, hwT, k2, ep⟩, fr2'⟩
    · refine xgf k2' rfl ?_
      have sp := sp_Txt_byteAt (i := pos + 1 + w) (ht.fr fr2' (by omega)) (by omega)
      have := tb_lt hb (pos + 1 + w)
      refine xci sp ?_
      refine pk_eq (tb T t (pos + 1 + w)) 44 (fun c5 => ?_) (fun c5 => ?_)
      · rw [if_pos ⟨by omega, c5⟩] at he
        have ih := ih h' (pos + 1 + w) _ (by omega) fr2' k2 (by
          by_cases z : pos + 1 + w < T
          · exact z
          · unfold tb at c5; rw [if_neg z] at c5; omega) ep (by show ptl p + 1 = l + 1; omega) (by rw [show 4 - (l + 1) = 3 - l by omega]; exact he)
        rw [← nI_1 l] at ih
        exact ih
      · rw [if_neg (fun z => c5 z.2)] at he
        subst he
        exact hQ _ _ ⟨⟨rfl, hwT, k2, ep⟩, fr2'⟩
