/-! PoemReader -/
def wbI (c m : Nat) : Int32 := if nI m ≤ nI c - nI 97 then -1 else nI c - nI 97
theorem wbI_ok : ∀ c, c < 128 → ∀ m, m < 8 → if 97 ≤ c ∧ c < 97 + m then wbI c m = nI (c - 97) else wbI c m < nI 0 := by decide +kernel
/-- whether there is one of m letters at a place -/
def wlb (T : Nat) (t : Nat → Nat) (m pos : Nat) : Bool := decide (97 ≤ tb T t pos ∧ tb T t pos < 97 + m)
/-- how many letters there are, up to k -/
def wct (T : Nat) (t : Nat → Nat) (m k pos : Nat) : Nat := sr (fun j => !wlb T t m (pos + j)) k 0
/-- whether a stanza is over at a place -/
def over (T : Nat) (t : Nat → Nat) (pos : Nat) : Bool := decide (tb T t pos = 47 ∨ tb T t pos = 59 ∨ tb T t pos = 0)
def ltr (t : Nat → Nat) (pos : Nat) : Nat → Nat := fun i => t (pos + i) - 97
def ptail (T : Nat) (t : Nat → Nat) (n : Nat) : Nat → Nat → Pv → Nat ⊕ (Nat × Pv)
  | 0, pos, p => .inr (pos, p)
  | k + 1, pos, p =>
    if wct T t n 3 (pos + 1) = 0 then .inl (pos + 1)
    else if k ≠ 0 ∧ tb T t (pos + 1 + wct T t n 3 (pos + 1)) = 44 then ptail T t n k (pos + 1 + wct T t n 3 (pos + 1)) (ptadd p (wct T t n 3 (pos + 1)) (ltr t (pos + 1)))
    else .inr (pos + 1 + wct T t n 3 (pos + 1), ptadd p (wct T t n 3 (pos + 1)) (ltr t (pos + 1)))
def pstz (T : Nat) (t : Nat → Nat) (n : Nat) : Nat → Nat → Pv → Nat ⊕ (Nat × Pv)
  | 0, pos, p => .inr (pos, p)
  | k + 1, pos, p =>
    if tb T t pos = 47 then
      if wct T t n n (pos + 1) < n then .inl (pos + 1 + wct T t n n (pos + 1))
      else if over T t (pos + 1 + n) = true then pstz T t n k (pos + 1 + n) (padd p (ltr t (pos + 1))) else .inl (pos + 1 + n)
    else .inr (pos, p)
def pfirst (T : Nat) (t : Nat → Nat) : Nat ⊕ Nat :=
  if wct T t 7 7 0 < 2 ∨ ¬ over T t (wct T t 7 7 0) = true then .inl (wct T t 7 7 0)
  else if sr (fun k => decide (wct T t 7 7 0 ≤ t k - 97)) (wct T t 7 7 0) 0 < wct T t 7 7 0 then .inl (sr (fun k => decide (wct T t 7 7 0 ≤ t k - 97)) (wct T t 7 7 0) 0)
  else .inr (wct T t 7 7 0)
def pfin (T : Nat) (n : Nat) : Nat ⊕ (Nat × Pv) → Nat ⊕ (Nat × Pv)
  | .inl f => .inl f
  | .inr (pos, p) => if pos < T then .inl pos else .inr (n, p)
def ptl4 (T : Nat) (t : Nat → Nat) (n : Nat) : Nat ⊕ (Nat × Pv) → Nat ⊕ (Nat × Pv)
  | .inl f => .inl f
  | .inr (pos, p) => if tb T t pos = 59 then ptail T t n 4 pos p else .inr (pos, p)
def pread (T : Nat) (t : Nat → Nat) : Nat ⊕ (Nat × Pv) :=
  match pfirst T t with
  | .inl f => .inl f
  | .inr L => pfin T L (ptl4 T t L (pstz T t L 7 L (padd pv0 (ltr t 0))))
def isPrd (h : xHp) (a : Nat) (n : Int32) (pos : Nat) : Prop := xat h a (xob 3 [.int n, .ref (a + 1), .int (nI pos)])
/-- the bytes of a text -/
def bok (T : Nat) (t : Nat → Nat) : Prop := T ≤ 80 ∧ ∀ i, i < T → 33 ≤ t i ∧ t i ≤ 126
theorem tb_lt {T : Nat} {t : Nat → Nat} (hb : bok T t) (pos : Nat) : tb T t pos < 128 := by
  unfold tb
  split
  · have := hb.2 pos (by assumption); omega
  · omega
theorem wlb_in {T pos m : Nat} {t : Nat → Nat} (h : wlb T t m pos = true) : pos < T ∧ 97 ≤ t pos ∧ t pos < 97 + m := by
  unfold wlb at h
  rw [decide_eq_true_eq] at h
  unfold tb at h
  by_cases c : pos < T
  · rw [if_pos c] at h; exact ⟨c, h⟩
  · rw [if_neg c] at h; omega
theorem wct_yes {T m k pos : Nat} {t : Nat → Nat} {j : Nat} (h : j < wct T t m k pos) : wlb T t m (pos + j) = true := by
  have := sr_no _ _ _ j (Nat.zero_le _) h
  simpa using this
theorem wct_le (T : Nat) (t : Nat → Nat) (m k pos : Nat) : wct T t m k pos ≤ k := by
  have := sr_le (fun j => !wlb T t m (pos + j)) k 0
  unfold wct; omega
theorem wct_T {T m k pos : Nat} {t : Nat → Nat} (h : pos ≤ T) : pos + wct T t m k pos ≤ T := by
  by_cases c : wct T t m k pos = 0
  · omega
  · have := wlb_in (wct_yes (T := T) (t := t) (m := m) (k := k) (pos := pos) (j := wct T t m k pos - 1) (by omega))
    omega
theorem lt_nle {x : Int32} (h : x < nI 0) : ¬ nI 0 ≤ x := fun z => by
  rw [Int32.le_iff_toInt_le] at z
  rw [Int32.lt_iff_toInt_lt] at h
  omega
theorem tb_in {T pos : Nat} {t : Nat → Nat} (h : pos < T) : tb T t pos = t pos := if_pos h
/-- the answer of wordBelow -/
theorem wb_yes {T m pos : Nat} {t : Nat → Nat} (hb : bok T t) (hm : m < 8) (h : wlb T t m pos = true) : wbI (tb T t pos) m = nI (t pos - 97) ∧ t pos - 97 < m := by
  have h2 := wlb_in h
  have := wbI_ok _ (tb_lt hb pos) m hm
  rw [tb_in h2.1, if_pos h2.2] at this
  rw [tb_in h2.1]
  exact ⟨this, by omega⟩
theorem wb_no {T m pos : Nat} {t : Nat → Nat} (hb : bok T t) (hm : m < 8) (h : ¬ wlb T t m pos = true) : wbI (tb T t pos) m < nI 0 := by
  have := wbI_ok _ (tb_lt hb pos) m hm
  unfold wlb at h
  rw [if_neg (by simpa using h)] at this
  exact this
