/-! HELP: numbers, steps of conditions, rows of small numbers packed in an int -/
theorem xgoal {lim : Nat × Nat} {g : xSig} {cd : xCd} {Q : Option Value → xHp → Prop} (cut : List (Nat × List Nat)) (n : Nat) (ok : xOK g cd) {pc : Nat} {L : xLo} {st : List Value} {h : xHp} (hs : wp lim g cd cut (xAt lim g Q) Q n pc L st h) : xAt lim g Q pc L st h := wp_sound ok (fun _ _ _ _ z => z) n pc L st h hs
theorem n_and (a b : Nat) : nI a &&& nI b = nI (a &&& b) := by
  apply Int32.toBitVec_inj.1
  show BitVec.ofNat 32 a &&& BitVec.ofNat 32 b = BitVec.ofNat 32 (a &&& b)
  apply BitVec.eq_of_getLsbD_eq
  intro i hi
  simp [hi]
theorem n_or (a b : Nat) : nI a ||| nI b = nI (a ||| b) := by
  apply Int32.toBitVec_inj.1
  show BitVec.ofNat 32 a ||| BitVec.ofNat 32 b = BitVec.ofNat 32 (a ||| b)
  apply BitVec.eq_of_getLsbD_eq
  intro i hi
  simp [hi]
theorem n_xor (a b : Nat) : nI a ^^^ nI b = nI (a ^^^ b) := by
  apply Int32.toBitVec_inj.1
  show BitVec.ofNat 32 a ^^^ BitVec.ofNat 32 b = BitVec.ofNat 32 (a ^^^ b)
  apply BitVec.eq_of_getLsbD_eq
  intro i hi
  simp [hi]
theorem n_mul (a b : Nat) : nI a * nI b = nI (a * b) := pk_mul a b
theorem n_m1 : (-1 : Int32) = nI 4294967295 := by decide +kernel
theorem n_sh : ∀ k, k < 32 → ((nI k &&& 31).toBitVec.smod 32).toNat = k := by decide +kernel
theorem n_shl (n k : Nat) (hk : k < 32) : nI n <<< (nI k &&& 31) = nI (n * 2 ^ k) := by
  have hn : nI n = nI (n % 2 ^ 32) := by
    apply Int32.toBitVec_inj.1
    apply BitVec.eq_of_toNat_eq
    show n % 2 ^ 32 = n % 2 ^ 32 % 2 ^ 32
    omega
  apply Int32.toBitVec_inj.mp
  apply BitVec.eq_of_toNat_eq
  rw [pk_shl _ _ k (n_sh k hk)]
  show (n % 2 ^ 32) * 2 ^ k % 2 ^ 32 = n * 2 ^ k % 2 ^ 32
  rw [Nat.mod_mul_mod]
theorem n_shr {n k : Nat} (hn : n < 2 ^ 31) (hk : k < 32) : nI n >>> (nI k &&& 31) = nI (n / 2 ^ k) := pk_shrN hn _ k (n_sh k hk)
theorem n_inj {a b : Nat} (ha : a < 2 ^ 31) (hb : b < 2 ^ 31) (h : nI a = nI b) : a = b := (nI_eq ha hb).mp h
/-! steps -/
theorem xgf {h : xHp} {a ci n : Nat} {fs : List Value} {v : Value} {P : Value → Prop} (ha : xat h a (xob ci fs)) (hv : fs[n]? = some v) (p : P v) : ∃ fs v, xat h a (xob ci fs) ∧ fs[n]? = some v ∧ P v := ⟨fs, v, ha, hv, p⟩
theorem xpf {h : xHp} {a ci n : Nat} {fs : List Value} {b : Bool} {P : List Value → Prop} (ha : xat h a (xob ci fs)) (hl : n < fs.length) (hb : b = true) (p : P fs) : ∃ fs, xat h a (xob ci fs) ∧ n < fs.length ∧ bif b then P fs else False := ⟨fs, ha, hl, by rw [hb]; exact p⟩
theorem xal {h : xHp} {a n j : Nat} {i : Int32} {f : Nat → Int32} {P : Nat → (Nat → Int32) → Nat → Prop} (ha : xat h a (xia n f)) (hi : i = nI j) (hj : j < n) (hn : n < 2147483648) (p : P n f j) : ∃ n f j, xat h a (xia n f) ∧ xix i j n ∧ P n f j := ⟨n, f, j, ha, ⟨hi, hj, hn⟩, p⟩
theorem xra_ {h : xHp} {a n j q : Nat} {i : Int32} {f : Nat → Option Nat} {P : Nat → Prop} (ha : xat h a (xra n f)) (hi : i = nI j) (hj : j < n) (hn : n < 2147483648) (hf : f j = some q) (p : P q) : ∃ n f j q, xat h a (xra n f) ∧ xix i j n ∧ f j = some q ∧ P q := ⟨n, f, j, q, ha, ⟨hi, hj, hn⟩, hf, p⟩
theorem xci {ZZ : Prop} {g : xSig} {As : List Value} {h h' : xHp} {r : Int32} {K : Int32 → xHp → Prop} (sp : Spec g As h (some (.int r)) h') (p : K r h') : (∃ P : Option Value → xHp → Prop, SpecR g As h P ∧ ∀ (r : Int32) (h' : xHp), P (some (.int r)) h' → K r h') ∨ ZZ := Or.inl (⟨_, sp, fun _ _ z => by obtain ⟨z1, rfl⟩ := z; cases z1; exact p⟩)
theorem xcl_ {ZZ : Prop} {g : xSig} {As : List Value} {h h' : xHp} {r : Int64} {K : Int64 → xHp → Prop} (sp : Spec g As h (some (.long r)) h') (p : K r h') : (∃ P : Option Value → xHp → Prop, SpecR g As h P ∧ ∀ (r : Int64) (h' : xHp), P (some (.long r)) h' → K r h') ∨ ZZ := Or.inl (⟨_, sp, fun _ _ z => by obtain ⟨z1, rfl⟩ := z; cases z1; exact p⟩)
theorem xcv_ {ZZ : Prop} {g : xSig} {As : List Value} {h h' : xHp} {K : xHp → Prop} (sp : Spec g As h none h') (p : K h') : (∃ P : Option Value → xHp → Prop, SpecR g As h P ∧ ∀ h' : xHp, P none h' → K h') ∨ ZZ := Or.inl (⟨_, sp, fun _ z => by obtain ⟨-, rfl⟩ := z; exact p⟩)
theorem xri {ZZ : Prop} {g : xSig} {As : List Value} {h : xHp} {P : Option Value → xHp → Prop} {K : Int32 → xHp → Prop} (sp : SpecR g As h P) (p : ∀ (r : Int32) (h' : xHp), P (some (.int r)) h' → K r h') : (∃ P : Option Value → xHp → Prop, SpecR g As h P ∧ ∀ (r : Int32) (h' : xHp), P (some (.int r)) h' → K r h') ∨ ZZ := Or.inl (⟨P, sp, p⟩)
theorem xrv {ZZ : Prop} {g : xSig} {As : List Value} {h : xHp} {P : Option Value → xHp → Prop} {K : xHp → Prop} (sp : SpecR g As h P) (p : ∀ h' : xHp, P none h' → K h') : (∃ P : Option Value → xHp → Prop, SpecR g As h P ∧ ∀ h' : xHp, P none h' → K h') ∨ ZZ := Or.inl (⟨P, sp, p⟩)
theorem up_loop {P : Nat → Prop} (e : Nat) (hend : P e) (hstep : ∀ i, i < e → P (i + 1) → P i) : ∀ i, i ≤ e → P i := by
  intro i hi
  have key : ∀ k i, i + k = e → P i := by
    intro k
    induction k with
    | zero => intro i h; have : i = e := by omega
              subst this; exact hend
    | succ k ih => intro i h; exact hstep i (by omega) (ih (i + 1) (by omega))
  exact key (e - i) i (by omega)
theorem xat_set {h : xHp} {a b : Nat} {e e' : xE} (ha : xat h a e) (hne : a ≠ b) : xat (xset h b e') a e := ⟨ha.1, (va_up_ne h.2.2 e' hne).trans ha.2⟩
theorem xat_self {h : xHp} {a : Nat} {e : xE} (e' : xE) (ha : xat h a e) : xat (xset h a e') a e' := ⟨ha.1, va_up_self h.2.2 a e'⟩
/-! a row of up to seven small numbers, three bits each -/
def pak (f : Nat → Nat) : Nat → Nat
  | 0 => 0
  | n + 1 => 2 ^ (3 * n) * f n + pak f n
def R (f : Nat → Nat) : Int32 := nI (pak f 7)
def upn (f : Nat → Nat) (k v : Nat) : Nat → Nat := fun j => if j = k then v else f j
theorem pak_lt {f : Nat → Nat} : ∀ {n : Nat}, (∀ i, i < n → f i < 8) → pak f n < 2 ^ (3 * n)
  | 0, _ => Nat.zero_lt_one
  | n + 1, h => by
    have h1 := pak_lt (n := n) (fun i hi => h i (by omega))
    have h2 := h n (by omega)
    have h3 : 2 ^ (3 * (n + 1)) = 2 ^ (3 * n) * 8 := by rw [Nat.mul_add, Nat.pow_add]
    have h4 : 2 ^ (3 * n) * f n ≤ 2 ^ (3 * n) * 7 := Nat.mul_le_mul_left _ (by omega)
    unfold pak
    omega
theorem pak_bit {f : Nat → Nat} : ∀ {n : Nat}, (∀ i, i < n → f i < 8) → ∀ t, (pak f n).testBit t = if t < 3 * n then (f (t / 3)).testBit (t % 3) else false
  | 0, _, t => by simp [pak]
  | n + 1, h, t => by
    have h1 := pak_lt (n := n) (fun i hi => h i (by omega))
    have ih := pak_bit (n := n) (fun i hi => h i (by omega)) t
    unfold pak
    rw [Nat.testBit_two_pow_mul_add _ h1]
    by_cases ht : t < 3 * n
    · rw [if_pos ht, ih, if_pos ht, if_pos (by omega)]
    · rw [if_neg ht]
      by_cases ht2 : t < 3 * (n + 1)
      · rw [if_pos ht2, show t / 3 = n by omega, show t % 3 = t - 3 * n by omega]
      · rw [if_neg ht2]
        exact Nat.testBit_lt_two_pow (Nat.lt_of_lt_of_le (h n (by omega)) (by
          have : 2 ^ 3 ≤ 2 ^ (t - 3 * n) := Nat.pow_le_pow_right (by omega) (by omega)
          omega))
theorem pak_congr {f g : Nat → Nat} : ∀ {n : Nat}, (∀ i, i < n → f i = g i) → pak f n = pak g n
  | 0, _ => rfl
  | n + 1, h => by
    unfold pak
    rw [pak_congr (n := n) (fun i hi => h i (by omega)), h n (by omega)]
theorem R_congr {f g : Nat → Nat} (h : ∀ i, i < 7 → f i = g i) : R f = R g := by unfold R; rw [pak_congr h]
theorem pak7 {f : Nat → Nat} (h : ∀ i, i < 7 → f i < 8) : pak f 7 < 2097152 := pak_lt h
theorem pak_get {f : Nat → Nat} {i : Nat} (h : ∀ i, i < 7 → f i < 8) (hi : i < 7) : pak f 7 / 2 ^ (3 * i) % 8 = f i := by
  apply Nat.eq_of_testBit_eq
  intro t
  rw [show (8 : Nat) = 2 ^ 3 from rfl, Nat.testBit_mod_two_pow, Nat.testBit_div_two_pow, pak_bit h]
  by_cases ht : t < 3
  · rw [if_pos (by omega), show (t + 3 * i) / 3 = i by omega, show (t + 3 * i) % 3 = t by omega]
    simp [ht]
  · simp only [ht, decide_false, Bool.false_and]
    exact (Nat.testBit_lt_two_pow (Nat.lt_of_lt_of_le (h i hi) (by
      have : 2 ^ 3 ≤ 2 ^ t := Nat.pow_le_pow_right (by omega) (by omega)
      omega))).symm
theorem R_inj {f g : Nat → Nat} (hf : ∀ i, i < 7 → f i < 8) (hg : ∀ i, i < 7 → g i < 8) (h : R f = R g) : ∀ i, i < 7 → f i = g i := by
  intro i hi
  have h1 := pak7 hf
  have h2 := pak7 hg
  have h3 := n_inj (by omega) (by omega) h
  rw [← pak_get hf hi, ← pak_get hg hi, h3]
theorem R_entry {f : Nat → Nat} {i : Nat} (h : ∀ i, i < 7 → f i < 8) (hi : i < 7) : (R f >>> ((nI 3 * nI i) &&& 31)) &&& nI 7 = nI (f i) := by
  have h1 := pak7 h
  unfold R
  rw [n_mul, n_shr (by omega) (by omega), n_and, show (7 : Nat) = 2 ^ 3 - 1 from rfl, Nat.and_two_pow_sub_one_eq_mod]
  rw [show (2 : Nat) ^ 3 = 8 from rfl, pak_get h hi]
theorem R_with {f : Nat → Nat} {i v : Nat} (h : ∀ i, i < 7 → f i < 8) (hi : i < 7) (hv : v < 8) : (R f &&& ((nI 7 <<< ((nI 3 * nI i) &&& 31)) ^^^ -1)) ||| (nI v <<< ((nI 3 * nI i) &&& 31)) = R (upn f i v) := by
  have h1 := pak7 h
  have h' : ∀ j, j < 7 → upn f i v j < 8 := fun j hj => by
    unfold upn
    split
    · exact hv
    · exact h j hj
  unfold R
  rw [n_mul, n_shl _ _ (by omega), n_shl _ _ (by omega), n_m1, n_xor, n_and, n_or]
  congr 1
  apply Nat.eq_of_testBit_eq
  intro t
  rw [Nat.testBit_or, Nat.testBit_and, Nat.testBit_xor, pak_bit h, pak_bit h', Nat.testBit_mul_two_pow, Nat.testBit_mul_two_pow, show (4294967295 : Nat) = 2 ^ 32 - 1 from rfl, Nat.testBit_two_pow_sub_one, show (7 : Nat) = 2 ^ 3 - 1 from rfl, Nat.testBit_two_pow_sub_one]
  by_cases ht : t < 3 * (2 ^ 3 - 1)
  · rw [if_pos ht, if_pos ht]
    have ht : t < 21 := ht
    unfold upn
    by_cases e : t / 3 = i
    · rw [if_pos e]
      have e1 : 3 * i ≤ t := by omega
      have e2 : t - 3 * i < 3 := by omega
      have e3 : t < 32 := by omega
      simp [e1, e2, e3]
      rw [show t % 3 = t - 3 * i by omega]
    · rw [if_neg e]
      have e3 : t < 32 := by omega
      by_cases e1 : 3 * i ≤ t
      · have e2 : ¬ t - 3 * i < 3 := by omega
        have e4 : v.testBit (t - 3 * i) = false := Nat.testBit_lt_two_pow (Nat.lt_of_lt_of_le hv (by
          have : 2 ^ 3 ≤ 2 ^ (t - 3 * i) := Nat.pow_le_pow_right (by omega) (by omega)
          omega))
        simp [e1, e2, e3, e4]
      · simp [e1, e3]
  · rw [if_neg ht, if_neg ht]
    have ht : ¬ t < 21 := ht
    have e4 : (decide (3 * i ≤ t) && v.testBit (t - 3 * i)) = false := by
      by_cases e1 : 3 * i ≤ t
      · rw [Nat.testBit_lt_two_pow (Nat.lt_of_lt_of_le hv (by
          have : 2 ^ 3 ≤ 2 ^ (t - 3 * i) := Nat.pow_le_pow_right (by omega) (by omega)
          omega))]
        simp
      · simp [e1]
    rw [e4]
    simp
theorem xrn_ {lim : Nat × Nat} {g : xSig} {As : List Value} {h : xHp} {mc ms : Nat} {P : Option Value → xHp → Prop} {X : Option Value → xHp → Prop} {ZZ : Prop} (sp : SpecN g As h mc ms P) (l1 : h.1 + mc ≤ lim.1) (l2 : h.2.1 + ms ≤ lim.2) (p : ∀ v h', P v h' → X v h') : ZZ ∨ ∃ mc ms, ∃ P : Option Value → xHp → Prop, SpecN g As h mc ms P ∧ h.1 + mc ≤ lim.1 ∧ h.2.1 + ms ≤ lim.2 ∧ ∀ v h', P v h' → X v h' := Or.inr ⟨mc, ms, P, sp, l1, l2, p⟩
