/-! PoemReader: stanzas, the whole text -/
theorem ltr_lt {T m k pos i : Nat} {t : Nat → Nat} (h : i < wct T t m k pos) : ltr t pos i < m := by
  have := wlb_in (wct_yes h)
  unfold ltr
  omega
theorem nI_m1 {f : Nat} (h : f < 2147483648) : ¬ nI f = -1 := fun z => by
  have := congrArg Int32.toInt z
  rw [nI_toInt h, show (-1 : Int32).toInt = -1 by decide] at this
  omega
/-- how the reader stands: a fault, or all right up to a place -/
def prS (T a L : Nat) (k : xHp) (v : Int32) : Nat ⊕ (Nat × Pv) → Prop
  | .inl f => v = nI f ∧ f ≤ 81 ∧ (∃ n pos, isPrd k a n pos) ∧ shPoem k (a + 1)
  | .inr (pos, p) => v = -1 ∧ pos ≤ T ∧ isPrd k a (nI L) pos ∧ isPoem k (a + 1) L p
