/-! TurnReader -/
def trun (n : Nat) (t : Nat → Nat) : Nat → Nat → (Nat → Nat) → Nat → Bool → Nat → Nat → Nat ⊕ (Nat → Nat)
  | 0, pos, f, _, ins, _, _ => if ins = true then .inl pos else .inr f
  | k + 1, pos, f, wr, ins, fi, la =>
    if ins = false then (if t pos = 40 then trun n t k (pos + 1) f wr true 0 la else .inl pos)
    else if t pos = 41 ∧ fi ≠ 0 then trun n t k (pos + 1) (upn f la (fi - 1)) wr false fi la
    else if t pos < 49 ∨ n ≤ t pos - 49 ∨ wr / 2 ^ (t pos - 49) % 2 = 1 then .inl pos
    else trun n t k (pos + 1) (if fi = 0 then f else upn f la (t pos - 49)) (wr ||| 2 ^ (t pos - 49)) true (if fi = 0 then t pos - 49 + 1 else fi) (t pos - 49)
theorem bit_dm (w m : Nat) : w / 2 ^ m % 2 = 1 ↔ w.testBit m = true := by
  rw [Nat.testBit_eq_decide_div_mod_eq, decide_eq_true_eq]
def trI (n : Nat) (f : Nat → Nat) (wr : Nat) (ins : Bool) (fi la : Nat) : Prop :=
  wr < 2 ^ n ∧ (∀ i, i < n → f i < n) ∧ (∀ x, x < n → ¬ wr / 2 ^ x % 2 = 1 → f x = x) ∧ if ins = true ∧ fi ≠ 0 then la < n ∧ fi - 1 < n ∧ wr / 2 ^ la % 2 = 1 ∧ PM n (upn f la (fi - 1)) else PM n f
theorem PM_swap {n a b : Nat} {g : Nat → Nat} (hg : PM n g) (ha : a < n) (hb : b < n) : PM n (fun i => g (if i = a then b else if i = b then a else i)) := by
  have hs : ∀ i, i < n → (if i = a then b else if i = b then a else i) < n := fun i hi => by
    split
    · omega
    · split <;> omega
  refine ⟨fun i hi => hg.1 _ (hs i hi), fun i j hi hj e => ?_⟩
  have := hg.2 _ _ (hs i hi) (hs j hj) e
  split at this <;> split at this <;> (try split at this) <;> (try split at this) <;> omega
theorem PM_congr {n : Nat} {f g : Nat → Nat} (hf : PM n f) (h : ∀ i, i < n → g i = f i) : PM n g := ⟨fun i hi => by rw [h i hi]; exact hf.1 i hi, fun i j hi hj e => hf.2 i j hi hj (by rw [← h i hi, ← h j hj]; exact e)⟩
theorem trI_open {n wr fi la : Nat} {f : Nat → Nat} (h : trI n f wr false fi la) (la' : Nat) : trI n f wr true 0 la' := by
  obtain ⟨h1, h2, h3, h4⟩ := h
  rw [if_neg (by simp)] at h4
  exact ⟨h1, h2, h3, by rw [if_neg (by simp)]; exact h4⟩
theorem trI_close {n wr fi la : Nat} {f : Nat → Nat} (h : trI n f wr true fi la) (hf : fi ≠ 0) : trI n (upn f la (fi - 1)) wr false fi la := by
  obtain ⟨h1, h2, h3, h4⟩ := h
  rw [if_pos ⟨rfl, hf⟩] at h4
  obtain ⟨a1, a2, a3, a4⟩ := h4
  refine ⟨h1, a4.1, fun x hx hb => ?_, by rw [if_neg (by simp)]; exact a4⟩
  unfold upn
  by_cases e : x = la
  · subst e; exact absurd a3 hb
  · rw [if_neg e]; exact h3 x hx hb
theorem trI_line {n wr fi la l : Nat} {f : Nat → Nat} (h : trI n f wr true fi la) (hl : l < n) (hb : ¬ wr / 2 ^ l % 2 = 1) : trI n (if fi = 0 then f else upn f la l) (wr ||| 2 ^ l) true (if fi = 0 then l + 1 else fi) l := by
  obtain ⟨h1, h2, h3, h4⟩ := h
  have hor : ∀ x, (wr ||| 2 ^ l) / 2 ^ x % 2 = 1 ↔ wr / 2 ^ x % 2 = 1 ∨ l = x := fun x => by
    rw [bit_dm, bit_dm, Nat.testBit_or, Bool.or_eq_true, Nat.testBit_two_pow, decide_eq_true_eq]
  have hlt : (wr ||| 2 ^ l) < 2 ^ n := Nat.or_lt_two_pow h1 (Nat.pow_lt_pow_right (by omega) hl)
  by_cases hf : fi = 0
  · subst hf
    rw [if_neg (by simp)] at h4
    rw [if_pos rfl, if_pos rfl]
    refine ⟨hlt, h2, fun x hx hx2 => h3 x hx (fun z => hx2 ((hor x).mpr (Or.inl z))), ?_⟩
    rw [if_pos ⟨rfl, by omega⟩]
    refine ⟨hl, by omega, (hor l).mpr (Or.inr rfl), PM_congr h4 (fun i hi => ?_)⟩
    unfold upn
    by_cases e : i = l
    · subst e; rw [if_pos rfl, h3 i hi hb]; omega
    · rw [if_neg e]
  · rw [if_pos ⟨rfl, hf⟩] at h4
    obtain ⟨a1, a2, a3, a4⟩ := h4
    have hne : l ≠ la := fun e => hb (e ▸ a3)
    rw [if_neg hf, if_neg hf]
    refine ⟨hlt, fun i hi => ?_, fun x hx hx2 => ?_, ?_⟩
    · unfold upn
      split
      · exact hl
      · exact h2 i hi
    · have hx3 : ¬ wr / 2 ^ x % 2 = 1 := fun z => hx2 ((hor x).mpr (Or.inl z))
      unfold upn
      rw [if_neg (fun e : x = la => hx3 (by rw [e]; exact a3))]
      exact h3 x hx hx3
    · rw [if_pos ⟨rfl, hf⟩]
      refine ⟨hl, a2, (hor l).mpr (Or.inr rfl), PM_congr (PM_swap a4 a1 hl) (fun i hi => ?_)⟩
      unfold upn
      by_cases e : i = l
      · subst e; rw [if_pos rfl, if_neg hne, if_pos rfl, if_pos rfl]
      · rw [if_neg e]
        by_cases e2 : i = la
        · subst e2; rw [if_pos rfl, if_pos rfl, if_neg hne, h3 l hl hb]
        · rw [if_neg e2, if_neg e2, if_neg e, if_neg e2]
theorem trun_PM {n : Nat} {t f' : Nat → Nat} : ∀ (k pos : Nat) (f : Nat → Nat) (wr : Nat) (ins : Bool) (fi la : Nat), trI n f wr ins fi la → trun n t k pos f wr ins fi la = .inr f' → PM n f'
  | 0, pos, f, wr, ins, fi, la, hi, e => by
    unfold trun at e
    cases ins with
    | true => simp at e
    | false =>
      obtain ⟨-, -, -, h4⟩ := hi
      rw [if_neg (by simp)] at h4
      simp at e
      rw [← e]; exact h4
  | k + 1, pos, f, wr, ins, fi, la, hi, e => by
    unfold trun at e
    cases ins with
    | false =>
      rw [if_pos rfl] at e
      split at e
      · exact trun_PM k _ _ _ _ _ _ (trI_open hi la) e
      · cases e
    | true =>
      rw [if_neg (by simp)] at e
      split at e
      · rename_i c; exact trun_PM k _ _ _ _ _ _ (trI_close hi c.2) e
      · split at e
        · cases e
        · rename_i c
          exact trun_PM k _ _ _ _ _ _ (trI_line hi (by omega) (fun z => c (Or.inr (Or.inr z)))) e
theorem R_upn {n i v : Nat} {f : Nat → Nat} (hi : i < n) : R (upn (nrm n f) i v) = R (nrm n (upn f i v)) := R_congr fun j _ => by
  show (if j = i then v else if j < n then f j else 0) = if j < n then (if j = i then v else f j) else 0
  by_cases e : j = i
  · subst e; rw [if_pos rfl, if_pos hi, if_pos rfl]
  · rw [if_neg e, if_neg e]
theorem n_d49lt : ∀ c, c < 128 → (nI c - nI 49 < nI 0 ↔ c < 49) := by decide +kernel
def fI (fi : Nat) : Int32 := if fi = 0 then -1 else nI (fi - 1)
