/-! TurnReader -/
def trun (n : Nat) (t : Nat → Nat) : Nat → Nat → (Nat → Nat) → Nat → Bool → Nat → Nat → Nat ⊕ (Nat → Nat)
  | 0, pos, f, _, ins, _, _ => if ins = true then .inl pos else .inr f
  | k + 1, pos, f, wr, ins, fi, la =>
    if ins = false then (if t pos = 40 then trun n t k (pos + 1) f wr true 0 la else .inl pos)
    else if t pos = 41 ∧ fi ≠ 0 then trun n t k (pos + 1) (upn f la (fi - 1)) wr false fi la
    else if t pos < 49 ∨ n ≤ t pos - 49 ∨ wr / 2 ^ (t pos - 49) % 2 = 1 then .inl pos
    else trun n t k (pos + 1) (if fi = 0 then f else upn f la (t pos - 49)) (wr ||| 2 ^ (t pos - 49)) true (if fi = 0 then t pos - 49 + 1 else fi) (t pos - 49)
theorem bit_dm (w m : Nat) : w / 2 ^ m % 2 = 1 ↔ w.testBit m = true := by
  rw [Nat.testBit_eq_decide_div_mod_eq, decide_eq_true_eq]
def trI (n : Nat) (f : Nat → Nat) (wr : Nat) (ins : Bool) (fi la : Nat) : Prop :=
  wr < 2 ^ n ∧ (∀ i, i < n → f i < n) ∧ (∀ x, x < n → ¬ wr / 2 ^ x % 2 = 1 → f x = x) ∧ if ins = true ∧ fi ≠ 0 then la < n ∧ fi - 1 < n ∧ wr / 2 ^ la % 2 = 1 ∧ PM n (upn f la (fi - 1)) else PM n f
theorem PM_swap {n a b : Nat} {g : Nat → Nat} (hg : PM n g) (ha : a < n) (hb : b < n) : PM n (fun i => g (if i = a then b else if i = b then a else i)) := by
  have hs : ∀ i, i < n → (if i = a then b else if i = b then a else i) < n := fun i hi => by
    split
    · omega
    · split <;> omega
  refine ⟨fun i hi => hg.1 _ (hs i hi), fun i j hi hj e => ?_⟩
  have := hg.2 _ _ (hs i hi) (hs j hj) e
  split at this <;> split at this <;> (try split at this) <;> (try split at this) <;> omega
theorem PM_congr {n : Nat} {f g : Nat → Nat} (hf : PM n f) (h : ∀ i, i < n → g i = f i) : PM n g := ⟨fun i hi => by rw [h i hi]; exact hf.1 i hi, fun i j hi hj e => hf.2 i j hi hj (by rw [← h i hi, ← h j hj]; exact e)⟩
theorem trI_open {n wr fi la : Nat} {f : Nat → Nat} (h : trI n f wr false fi la) (la' : Nat) : trI n f wr true 0 la' := by
  obtain ⟨h1, h2, h3, h4⟩ := h
  rw [if_neg (by simp)] at h4
  exact ⟨h1, h2, h3, by rw [if_neg (by simp)]; exact h4⟩
theorem trI_close {n wr fi la : Nat} {f : Nat → Nat} (h : trI n f wr true fi la) (hf : fi ≠ 0) : trI n (upn f la (fi - 1)) wr false fi la := by
  obtain ⟨h1, h2, h3, h4⟩ := h
  rw [if_pos ⟨rfl, hf⟩] at h4
  obtain ⟨a1, a2, a3, a4⟩ := h4
  refine ⟨h1, a4.1, fun x hx hb => ?_, by rw [if_neg (by simp)]; exact a4⟩
  unfold upn
  by_cases e : x = la
  · subst e; exact absurd a3 hb
  · rw [if_neg e]; exact h3 x hx hb
theorem trI_line {n wr fi la l : Nat} {f : Nat → Nat} (h : trI n f wr true fi la) (hl : l < n) (hb : ¬ wr / 2 ^ l % 2 = 1) : trI n (if fi = 0 then f else upn f la l) (wr ||| 2 ^ l) true (if fi = 0 then l + 1 else fi) l := by
  obtain ⟨h1, h2, h3, h4⟩ := h
  have hor : ∀ x, (wr ||| 2 ^ l) / 2 ^ x % 2 = 1 ↔ wr / 2 ^ x % 2 = 1 ∨ l = x := fun x => by
    rw [bit_dm, bit_dm, Nat.testBit_or, Bool.or_eq_true, Nat.testBit_two_pow, decide_eq_true_eq]
  have hlt : (wr ||| 2 ^ l) < 2 ^ n := Nat.or_lt_two_pow h1 (Nat.pow_lt_pow_right (by omega) hl)
  by_cases hf : fi = 0
  · subst hf
    rw [if_neg (by simp)] at h4
    rw [if_pos rfl, if_pos rfl]
    refine ⟨hlt, h2, fun x hx hx2 => h3 x hx (fun z => hx2 ((hor x).mpr (Or.inl z))), ?_⟩
    rw [if_pos ⟨rfl, by omega⟩]
    refine ⟨hl, by omega, (hor l).mpr (Or.inr rfl), PM_congr h4 (fun i hi => ?_)⟩
    unfold upn
    by_cases e : i = l
    · subst e; rw [if_pos rfl, h3 i hi hb]; omega
    · rw [if_neg e]
  · rw [if_pos ⟨rfl, hf⟩] at h4
    obtain ⟨a1, a2, a3, a4⟩ := h4
    have hne : l ≠ la := fun e => hb (e ▸ a3)
    rw [if_neg hf, if_neg hf]
    refine ⟨hlt, fun i hi => ?_, fun x hx hx2 => ?_, ?_⟩
    · unfold upn
      split
      · exact hl
      · exact h2 i hi
    · have hx3 : ¬ wr / 2 ^ x % 2 = 1 := fun z => hx2 ((hor x).mpr (Or.inl z))
      unfold upn
      rw [if_neg (fun e : x = la => hx3 (by rw [e]; exact a3))]
      exact h3 x hx hx3
    · rw [if_pos ⟨rfl, hf⟩]
      refine ⟨hl, a2, (hor l).mpr (Or.inr rfl), PM_congr (PM_swap a4 a1 hl) (fun i hi => ?_)⟩
      unfold upn
      by_cases e : i = l
      · subst e; rw [if_pos rfl, if_neg hne, if_pos rfl, if_pos rfl]
      · rw [if_neg e]
        by_cases e2 : i = la
        · subst e2; rw [if_pos rfl, if_pos rfl, if_neg hne, h3 l hl hb]
        · rw [if_neg e2, if_neg e2, if_neg e, if_neg e2]
theorem trun_PM {n : Nat} {t f' : Nat → Nat} : ∀ (k pos : Nat) (f : Nat → Nat) (wr : Nat) (ins : Bool) (fi la : Nat), trI n f wr ins fi la → trun n t k pos f wr ins fi la = .inr f' → PM n f'
  | 0, pos, f, wr, ins, fi, la, hi, e => by
    unfold trun at e
    cases ins with
    | true => simp at e
    | false =>
      obtain ⟨-, -, -, h4⟩ := hi
      rw [if_neg (by simp)] at h4
      simp at e
      rw [← e]; exact h4
  | k + 1, pos, f, wr, ins, fi, la, hi, e => by
    unfold trun at e
    cases ins with
    | false =>
      rw [if_pos rfl] at e
      split at e
      · exact trun_PM k _ _ _ _ _ _ (trI_open hi la) e
      · cases e
    | true =>
      rw [if_neg (by simp)] at e
      split at e
      · rename_i c; exact trun_PM k _ _ _ _ _ _ (trI_close hi c.2) e
      · split at e
        · cases e
        · rename_i c
          exact trun_PM k _ _ _ _ _ _ (trI_line hi (by omega) (fun z => c (Or.inr (Or.inr z)))) e
theorem R_upn {n i v : Nat} {f : Nat → Nat} (hi : i < n) : R (upn (nrm n f) i v) = R (nrm n (upn f i v)) := R_congr fun j _ => by
  show (if j = i then v else if j < n then f j else 0) = if j < n then (if j = i then v else f j) else 0
  by_cases e : j = i
  · subst e; rw [if_pos rfl, if_pos hi, if_pos rfl]
  · rw [if_neg e, if_neg e]
theorem n_d49lt : ∀ c, c < 128 → (nI c - nI 49 < nI 0 ↔ c < 49) := by decide +kernel
def fI (fi : Nat) : Int32 := if fi = 0 then -1 else nI (fi - 1)
theorem sp_TR_readText {h : xHp} {a c n T : Nat} {p0 : Int32} {t : Nat → Nat} (hn : n ≤ 7) (ha : xat h a (xob 7 [.int p0])) (ht : isText h c T t) (hb : ∀ i, i < T → 33 ≤ t i ∧ t i ≤ 126) (hd : a < c ∨ c + 2 ≤ a) : SpecR g_TR_readText [.ref a, .ref c, .int (nI n)] h (fun v h' => (match trun n t T 0 (fun i => i) 0 false 0 0 with | .inl k => v = some (.int (nI k)) ∧ k ≤ T | .inr f => v = some (.int (-1)) ∧ xat h' a (xob 7 [.int (R (nrm n f))])) ∧ (∃ p, xat h' a (xob 7 [.int p])) ∧ frm h h' a (a + 1)) := by
  have hT := ht.1
  have h0 := ht.2.1
  generalize hX : trun n t T 0 (fun i => i) 0 false 0 0 = X
  refine SpecR.of (by decide +kernel) (Nat.le_of_ble_eq_true rfl) (fun c hc => by cases hc; exact ⟨_, _, _, rfl, ha⟩) (fun v h' z => ⟨?_, z.2.2.1, z.2.2.2.1⟩) (fun Q hQ => ?_)
  · have z := z.1
    split at z
    · exact ⟨_, z.1⟩
    · exact ⟨_, z.1⟩
  refine xgoal [(22, [0, 1, 2, 3, 4, 5, 6, 7])] 100 ok_TR_readText ?_
  refine xci (sp_Row_ascending hn h) ?_
  refine xpf ha (Nat.le_of_ble_eq_true rfl) rfl ?_
  have key := up_loop (P := fun pos => ∀ (k : xHp) (f : Nat → Nat) (wr : Nat) (ins : Bool) (fi la : Nat) (fI' laI : Int32), frm h k a (a + 1) → xat k a (xob 7 [.int (R (nrm n f))]) → trI n f wr ins fi la → (ins = true → fI' = fI fi) → (ins = true → fi ≠ 0 → laI = nI la) → X = trun n t (T - pos) pos f wr ins fi la →
      xAt (h.1, h.2.1) g_TR_readText Q 22 [(0, .ref a), (1, .ref c), (2, .int (nI n)), (3, .int (nI wr)), (4, .int (nI (if ins = true then 1 else 0))), (5, .int fI'), (6, .int laI), (7, .int (nI pos))] [] k) T ?_ (fun pos hpos ih => ?_) 0 (Nat.zero_le _)
  · exact key _ _ 0 false 0 0 _ _ (frm_set frm_rf (by omega) (by omega)) (xat_sf ha.1) ⟨Nat.two_pow_pos n, fun i hi => hi, fun x _ _ => rfl, by rw [if_neg (by simp)]; exact ⟨fun i hi => hi, fun i j _ _ e => e⟩⟩ (fun z => by cases z) (fun z => by cases z) hX.symm
  · intro k f wr ins fi la fI' laI fr k0 hi _ _ he
    rw [Nat.sub_self] at he
    unfold trun at he
    refine xgoal [(22, [0, 1, 2, 3, 4, 5, 6, 7])] 100 ok_TR_readText ?_
    refine xgf (xat_fr h0 fr (by omega)) rfl ?_
    refine pk_le T T (fun _ => ?_) (fun c => absurd c (by omega))
    cases ins with
    | false =>
      rw [if_neg (by simp)] at he
      rw [he] at hQ
      exact pk_eq 0 0 (fun _ => hQ _ _ ⟨⟨rfl, k0⟩, ⟨_, k0⟩, fr⟩) (fun c => absurd rfl c)
    | true =>
      rw [if_pos rfl] at he
      rw [he] at hQ
      refine pk_eq 1 0 (fun c => absurd c (by omega)) (fun _ => ?_)
      refine xgf (xat_fr h0 fr (by omega)) rfl ?_
      exact hQ _ _ ⟨⟨rfl, Nat.le_refl _⟩, ⟨_, k0⟩, fr⟩
  · intro k f wr ins fi la fI' laI fr k0 hi hfi hla he
    obtain ⟨b1, b2⟩ := hb pos hpos
    rw [show T - pos = (T - (pos + 1)) + 1 by omega] at he
    unfold trun at he
    have hi2 := hi
    obtain ⟨i1, i2, i3, i4⟩ := hi2
    have i1' : wr < 2 ^ 7 := Nat.lt_of_lt_of_le i1 (Nat.pow_le_pow_right (by omega) hn)
    have bA := sp_Txt_byteAt (i := pos) (ht.fr fr (by omega)) (by omega)
    have etb : tb T t pos = t pos := if_pos hpos
    rw [etb] at bA
    have hb8 : b8 (nrm n f) := nrm_b8 (fun i hi => by have := i2 i hi; omega)
    refine xgoal [(22, [0, 1, 2, 3, 4, 5, 6, 7]), (96, [0, 1, 2, 3, 4, 5, 6, 7, 8])] 100 ok_TR_readText ?_
    refine xgf (xat_fr h0 fr (by omega)) rfl ?_
    refine pk_le T pos (fun c => absurd c (by omega)) (fun _ => ?_)
    refine xci bA ?_
    have stop : X = .inl pos → Q (some (.int (nI pos))) k := fun z => by
      rw [z] at hQ
      exact hQ _ _ ⟨⟨rfl, by omega⟩, ⟨_, k0⟩, fr⟩
    cases ins with
    | false =>
      rw [if_pos rfl] at he
      refine pk_eq 0 0 (fun _ => ?_) (fun c => absurd rfl c)
      refine pk_eq (t pos) 40 (fun c => ?_) (fun c => ?_)
      · rw [if_pos c] at he
        have ih := ih k f wr true 0 la (-1) laI fr k0 (trI_open hi la) (fun _ => rfl) (fun _ z => absurd rfl z) he
        rw [← nI_1 pos] at ih
        exact ih
      · rw [if_neg c] at he
        exact stop he
    | true =>
      rw [if_neg (by simp)] at he
      have hfi := hfi rfl
      have hla := hla rfl
      subst hfi
      refine pk_eq 1 0 (fun c => absurd c (by omega)) (fun _ => ?_)
      have dig : ¬ (t pos = 41 ∧ fi ≠ 0) → xAt (h.1, h.2.1) g_TR_readText Q 96 [(0, .ref a), (1, .ref c), (2, .int (nI n)), (3, .int (nI wr)), (4, .int (nI 1)), (5, .int (fI fi)), (6, .int laI), (7, .int (nI pos)), (8, .int (nI (t pos)))] [] k := fun hno => by
        rw [if_neg hno] at he
        refine xgoal [(22, [0, 1, 2, 3, 4, 5, 6, 7])] 100 ok_TR_readText ?_
        have hlt := n_d49lt (t pos) (by omega)
        refine And.intro (fun c => ?_) (fun c => ?_)
        · rw [if_pos (Or.inl (hlt.mp c))] at he
          exact stop he
        have c1 : ¬ t pos < 49 := fun z => c (hlt.mpr z)
        have e1 : nI (t pos) - nI 49 = nI (t pos - 49) := pk_sub (by omega)
        refine pk_le n (t pos - 49) (fun c2 => ?_) (fun c2 => ?_) rfl e1
        · rw [if_pos (Or.inr (Or.inl c2))] at he
          exact stop he
        have e2 : nI wr >>> ((nI (t pos) - nI 49) &&& 31) &&& nI 1 = nI (wr / 2 ^ (t pos - 49) % 2) := by
          rw [e1, n_shr (by omega) (by omega), n_and, show (1 : Nat) = 2 ^ 1 - 1 from rfl, Nat.and_two_pow_sub_one_eq_mod]
        refine pk_eq (wr / 2 ^ (t pos - 49) % 2) 1 (fun c3 => ?_) (fun c3 => ?_) e2 rfl
        · rw [if_pos (Or.inr (Or.inr c3))] at he
          exact stop he
        rw [if_neg (by omega)] at he
        have hI := trI_line hi (l := t pos - 49) (by omega) c3
        have e3 : nI wr ||| (nI 1 <<< ((nI (t pos) - nI 49) &&& 31)) = nI (wr ||| 2 ^ (t pos - 49)) := by
          rw [e1, n_shl _ _ (by omega), n_or, Nat.one_mul]
        by_cases hf : fi = 0
        · subst hf
          rw [if_pos rfl, if_pos rfl] at he hI
          refine And.intro (fun c => absurd c (by decide)) (fun _ => ?_)
          have ih := ih k f _ true (t pos - 49 + 1) (t pos - 49) (nI (t pos - 49)) (nI (t pos - 49)) fr k0 hI (fun _ => rfl) (fun _ _ => rfl) he
          rw [← e3, ← e1, ← nI_1 pos] at ih
          exact ih
        · rw [if_neg hf, if_neg hf] at he hI
          have hla := hla hf
          subst hla
          rw [if_pos ⟨rfl, hf⟩] at i4
          have ef : fI fi = nI (fi - 1) := if_neg hf
          refine pk_le 0 (fi - 1) (fun _ => ?_) (fun c => absurd c (by omega)) rfl ef
          refine xgf k0 rfl ?_
          have sp := sp_Row_with (i := la) (v := t pos - 49) hb8 (by omega) (by omega) k
          rw [R_upn i4.1, ← e1] at sp
          refine xci sp ?_
          refine xpf k0 (Nat.le_of_ble_eq_true rfl) rfl ?_
          have ih := ih _ _ _ true fi (t pos - 49) (fI fi) (nI (t pos - 49)) (frm_set fr (Nat.le_refl _) (by omega)) (xat_sf k0.1) hI (fun _ => rfl) (fun _ _ => rfl) he
          rw [← e3, ← e1, ← nI_1 pos] at ih
          exact ih
      refine pk_eq (t pos) 41 (fun c => ?_) (fun c => ?_)
      · by_cases hf : fi = 0
        · refine And.intro (fun _ => ?_) (fun z => absurd ?_ z)
          · exact dig (fun z => z.2 hf)
          · subst hf; decide
        · have hla := hla hf
          subst hla
          rw [if_pos ⟨c, hf⟩] at he
          rw [if_pos ⟨rfl, hf⟩] at i4
          have ef : fI fi = nI (fi - 1) := if_neg hf
          refine pk_lt (fi - 1) 0 (fun c => absurd c (by omega)) (fun _ => ?_) ef rfl
          refine xgf k0 rfl ?_
          have sp := sp_Row_with (i := la) (v := fi - 1) hb8 (by omega) (by omega) k
          rw [R_upn i4.1, ← ef] at sp
          refine xci sp ?_
          refine xpf k0 (Nat.le_of_ble_eq_true rfl) rfl ?_
          have ih := ih _ _ _ false fi la (fI fi) (nI la) (frm_set fr (Nat.le_refl _) (by omega)) (xat_sf k0.1) (trI_close hi hf) (fun _ => rfl) (fun _ _ => rfl) he
          rw [← nI_1 pos] at ih
          exact ih
      · exact dig (fun z => c z.1)
