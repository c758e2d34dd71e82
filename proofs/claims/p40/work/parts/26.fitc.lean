/-! Fit: comparing poems, the best permutation -/
/-- the place of a stanza that comes from a line of the first one -/
def JJ (n : Nat) (f : Nat → Nat) (t l : Nat) : Nat := inv n (itr f t) l
def fG (n : Nat) (f : Nat → Nat) (p : Pv) (t l : Nat) : Nat := pst p t (JJ n f t l)
def prP (n : Nat) (f : Nat → Nat) (p : Pv) (l w : Nat) : Nat := sumN (fun t => if fG n f p t l = w then 0 else if plk p t / 2 ^ JJ n f t l % 2 = 1 then 1000 else 1) (pc p)
theorem JJ_iff {n t l j : Nat} {f : Nat → Nat} (hf : PM n f) (hl : l < n) (hj : j < n) : itr f t j = l ↔ j = JJ n f t l := by
  have hg := get_inv (itr_PM hf t) hl
  constructor
  · intro e; exact (itr_PM hf t).2 j _ hj hg.1 (by rw [e]; exact hg.2.symm)
  · intro e; rw [e]; exact hg.2
theorem JJ_lt {n t l : Nat} {f : Nat → Nat} (hf : PM n f) (hl : l < n) : JJ n f t l < n := (get_inv (itr_PM hf t) hl).1
theorem kpI_ct {n l w t : Nat} {f K : Nat → Nat} {p : Pv} (hw : w < 8) (hp : ∀ i, i < n → pst p t i < 8) : ∀ i, i ≤ n → kpI f p t i K (8 * l + w) = K (8 * l + w) + ct (fun j => decide (itr f t j = l ∧ pst p t j = w)) i
  | 0, _ => rfl
  | i + 1, hi => by
    have ih := kpI_ct (f := f) (K := K) (l := l) hw hp i (by omega)
    have h1 := hp i (by omega)
    unfold kpI upn ct
    by_cases c : itr f t i = l ∧ pst p t i = w
    · rw [if_pos (by omega), if_pos (decide_eq_true c), c.1, c.2, ih]; rfl
    · rw [if_neg (fun z => c (by omega)), if_neg (by simpa using c)]
      exact ih
theorem ct_JJ {n l w t : Nat} {f : Nat → Nat} {p : Pv} (hf : PM n f) (hl : l < n) : ct (fun j => decide (itr f t j = l ∧ pst p t j = w)) n = if fG n f p t l = w then 1 else 0 := by
  have e : ct (fun j => decide (itr f t j = l ∧ pst p t j = w)) n = ct (fun j => decide (j = JJ n f t l) && decide (fG n f p t l = w)) n := ct_congr (fun j hj => by
    have := JJ_iff (t := t) hf hl hj
    by_cases c : j = JJ n f t l
    · rw [show decide (itr f t j = l ∧ pst p t j = w) = decide (pst p t j = w) from decide_eq_decide.mpr ⟨fun z => z.2, fun z => ⟨this.mpr c, z⟩⟩, c, decide_eq_true (rfl : JJ n f t l = JJ n f t l), Bool.true_and]
      exact decide_eq_decide.mpr Iff.rfl
    · rw [decide_eq_false (fun z => c (this.mp z.1)), decide_eq_false c]; rfl)
  rw [e, ct_at]
  have := JJ_lt (t := t) hf hl
  by_cases c : fG n f p t l = w
  · rw [if_pos ⟨this, decide_eq_true c⟩, if_pos c]
  · rw [if_neg (fun z => c (of_decide_eq_true z.2)), if_neg c]
theorem kpS_ct {n l w : Nat} {f : Nat → Nat} {p : Pv} (hn : n ≤ 7) (hf : PM n f) (hl : l < n) (hw : w < n) : ∀ s, (∀ t, t < s → ∀ i, i < n → pst p t i < n) → kpS n f p s (8 * l + w) = ct (fun t => decide (fG n f p t l = w)) s
  | 0, _ => rfl
  | s + 1, hp => by
    have ih := kpS_ct hn hf hl hw s (fun t ht => hp t (by omega))
    unfold kpS ct
    rw [kpI_ct (n := n) (by omega) (fun i hi => by have := hp s (by omega) i hi; omega) n (Nat.le_refl _), ih, ct_JJ hf hl]
    by_cases c : fG n f p s l = w
    · rw [if_pos c, if_pos (decide_eq_true c)]
    · rw [if_neg c, if_neg (by simpa using c)]
theorem alI_bit {l w t : Nat} {f A : Nat → Nat} {p : Pv} : ∀ i, (alI f p t i A l).testBit w = true ↔ (A l).testBit w = true ∧ ∀ j, j < i → itr f t j = l → plk p t / 2 ^ j % 2 = 1 → pst p t j = w
  | 0 => ⟨fun z => ⟨z, fun j hj => absurd hj (Nat.not_lt_zero j)⟩, fun z => z.1⟩
  | i + 1 => by
    have ih := alI_bit (l := l) (w := w) (t := t) (f := f) (A := A) (p := p) i
    unfold alI
    by_cases c : plk p t / 2 ^ i % 2 = 1
    · rw [if_pos c]
      unfold upn
      by_cases e : l = itr f t i
      · rw [if_pos e, ← e, Nat.testBit_and, Bool.and_eq_true, ih, Nat.testBit_two_pow, decide_eq_true_eq]
        constructor
        · rintro ⟨⟨h1, h2⟩, h3⟩
          refine ⟨h1, fun j hj g1 g2 => ?_⟩
          by_cases z : j = i
          · subst z; exact h3
          · exact h2 j (by omega) g1 g2
        · rintro ⟨h1, h2⟩
          exact ⟨⟨h1, fun j hj => h2 j (by omega)⟩, h2 i (by omega) e.symm c⟩
      · rw [if_neg e, ih]
        constructor
        · rintro ⟨h1, h2⟩
          refine ⟨h1, fun j hj g1 g2 => ?_⟩
          by_cases z : j = i
          · subst z; exact absurd g1.symm e
          · exact h2 j (by omega) g1 g2
        · rintro ⟨h1, h2⟩
          exact ⟨h1, fun j hj => h2 j (by omega)⟩
    · rw [if_neg c, ih]
      constructor
      · rintro ⟨h1, h2⟩
        refine ⟨h1, fun j hj g1 g2 => ?_⟩
        by_cases z : j = i
        · subst z; exact absurd g2 c
        · exact h2 j (by omega) g1 g2
      · rintro ⟨h1, h2⟩
        exact ⟨h1, fun j hj => h2 j (by omega)⟩
theorem alS_bit {n l w : Nat} {f : Nat → Nat} {p : Pv} (hf : PM n f) (hl : l < n) (hw : w < n) : ∀ s, (alS n f p s l).testBit w = true ↔ ∀ t, t < s → plk p t / 2 ^ JJ n f t l % 2 = 1 → fG n f p t l = w
  | 0 => by
    refine ⟨fun _ t ht => absurd ht (Nat.not_lt_zero t), fun _ => ?_⟩
    show (2 ^ n - 1).testBit w = true
    rw [Nat.testBit_two_pow_sub_one]; simpa using hw
  | s + 1 => by
    have ih := alS_bit (p := p) hf hl hw s
    unfold alS
    rw [alI_bit, ih]
    constructor
    · rintro ⟨h1, h2⟩ t ht g
      by_cases e : t = s
      · subst e; exact h2 _ (JJ_lt hf hl) ((JJ_iff hf hl (JJ_lt hf hl)).mpr rfl) g
      · exact h1 t (by omega) g
    · intro h
      refine ⟨fun t ht => h t (by omega), fun j hj g1 g2 => ?_⟩
      have e := (JJ_iff hf hl hj).mp g1
      have := h s (by omega) (by rw [← e]; exact g2)
      unfold fG at this
      rw [← e] at this
      exact this
theorem sumN_ge {f : Nat → Nat} {i : Nat} : ∀ {n : Nat}, i < n → f i ≤ sumN f n
  | 0, h => absurd h (Nat.not_lt_zero i)
  | n + 1, h => by
    show f i ≤ sumN f n + f n
    by_cases e : i = n
    · subst e; omega
    · have := sumN_ge (f := f) (n := n) (show i < n by omega); omega
theorem PK_p {n : Nat} {f : Nat → Nat} {p : Pv} (hn : n ≤ 7) (hk : pok n p) (hf : PM n f) : PK n (pc p) (KPp n f p) (ALp n f p) (prP n f p) := by
  refine ⟨hk.1, fun l w hl hw => ?_⟩
  have e : KPp n f p l w = ct (fun t => decide (fG n f p t l = w)) (pc p) := kpS_ct hn hf hl hw (pc p) hk.2.1
  have hb := alS_bit (p := p) hf hl hw (pc p)
  refine ⟨by rw [e]; exact ct_le _ _, fun c => ?_, fun c => ?_⟩
  · have c := hb.mp ((bit_dm _ _).mp c)
    rw [e]
    unfold prP
    have key : ∀ s, s ≤ pc p → sumN (fun t => if fG n f p t l = w then 0 else if plk p t / 2 ^ JJ n f t l % 2 = 1 then 1000 else 1) s + ct (fun t => decide (fG n f p t l = w)) s = s := by
      intro s
      induction s with
      | zero => intro _; rfl
      | succ s ih =>
        intro hs
        have ih := ih (by omega)
        unfold sumN ct
        by_cases z : fG n f p s l = w
        · rw [if_pos z, if_pos (decide_eq_true z)]; omega
        · rw [if_neg z, if_neg (fun y => z (c s (by omega) y)), if_neg (by simpa using z)]; omega
    exact key (pc p) (Nat.le_refl _)
  · have : ∃ t, t < pc p ∧ plk p t / 2 ^ JJ n f t l % 2 = 1 ∧ ¬ fG n f p t l = w := Classical.byContradiction fun z => c ((bit_dm _ _).mpr (hb.mpr (fun t ht g => Classical.byContradiction fun y => z ⟨t, ht, g, y⟩)))
    obtain ⟨t, h1, h2, h3⟩ := this
    have g := sumN_ge (f := fun t => if fG n f p t l = w then 0 else if plk p t / 2 ^ JJ n f t l % 2 = 1 then 1000 else 1) h1
    have e2 : (if fG n f p t l = w then 0 else if plk p t / 2 ^ JJ n f t l % 2 = 1 then 1000 else 1) = 1000 := by rw [if_neg h3, if_pos h2]
    have g : (if fG n f p t l = w then 0 else if plk p t / 2 ^ JJ n f t l % 2 = 1 then 1000 else 1) ≤ prP n f p l w := g
    omega
theorem fitB_p {n : Nat} {f : Nat → Nat} {p : Pv} (hn : n ≤ 7) (hk : pok n p) (hf : PM n f) : fitB n (KPp n f p) (ALp n f p) := by
  have h7 := p2_7 hn
  refine ⟨hn, fun l w hl hw => ?_, fun l hl => ?_⟩
  · have := ((PK_p hn hk hf).2 l w hl hw).1
    have := hk.1
    omega
  · have := alS_lt (n := n) (f := f) (p := p) l (pc p)
    show alS n f p (pc p) l < 128
    omega
def isFK (h : xHp) (a n : Nat) (K A : Nat → Nat) : Prop :=
  xat h a (xob 0 [.int (nI n), .ref (a + 1), .ref (a + 2), .ref (a + 3)]) ∧ (∃ f, xat h (a + 1) (xia 64 f) ∧ ∀ x, x < 64 → f x = nI (K x)) ∧ ∃ f, xat h (a + 2) (xia 8 f) ∧ ∀ l, l < 8 → f l = nI (A l)
theorem sp_Fit_compare {h : xHp} {a b n : Nat} {p : Pv} {f : Nat → Nat} (hs : shFit h a) (hp : isPoem h b n p) (hk : pok n p) (hn : n ≤ 7) (hf : PM n f) (hd : a + 4 ≤ b ∨ b + 5 ≤ a) : SpecR g_Fit_compare [.ref a, .ref b, .int (R (nrm n f)), .int (nI n)] h (fun v h' => v = none ∧ isFit h' a n (KPp n f p) (ALp n f p) ∧ frm h h' a (a + 3)) := by
  obtain ⟨n0, f1, f2, f3, h0, h1, h2, h3⟩ := hs
  obtain ⟨b0, ⟨g1, b1, r1⟩, ⟨g2, b2, r2⟩, -⟩ := hp
  obtain ⟨k1, k2, k3, -⟩ := hk
  have h7 := p2_7 hn
  have hp1 := Nat.two_pow_pos n
  refine SpecR.of (by decide +kernel) (Nat.le_of_ble_eq_true rfl) (fun c hc => by cases hc; exact ⟨_, _, _, rfl, h0⟩) (fun v h' z => ⟨z.1, z.2.2.1, z.2.2.2.1⟩) (fun Q hQ => ?_)
  have at40 : ∀ s, s ≤ pc p → ∀ k : xHp, frm h k a (a + 3) → isFK k a n (kpS n f p s) (alS n f p s) → xAt (h.1, h.2.1) g_Fit_compare Q 40 [(0, .ref a), (1, .ref b), (2, .int (R (nrm n f))), (4, .int (R (nrm n (itr f s)))), (5, .int (nI s))] [] k := by
    refine up_loop (P := fun s => ∀ k : xHp, frm h k a (a + 3) → isFK k a n (kpS n f p s) (alS n f p s) → xAt (h.1, h.2.1) g_Fit_compare Q 40 [(0, .ref a), (1, .ref b), (2, .int (R (nrm n f))), (4, .int (R (nrm n (itr f s)))), (5, .int (nI s))] [] k) (pc p) ?_ (fun s hs ih => ?_)
    · intro k fr hk
      refine xgoal [(40, [0, 1, 2, 4, 5]), (59, [0, 1, 2, 4, 5, 6])] 100 ok_Fit_compare ?_
      refine xgf (xat_fr b0 fr (by omega)) rfl ?_
      refine pk_le (pc p) (pc p) (fun _ => ?_) (fun c => absurd c (by omega))
      obtain ⟨w0, ⟨z1, w1, q1⟩, ⟨z2, w2, q2⟩⟩ := hk
      exact hQ _ _ ⟨rfl, ⟨w0, ⟨z1, w1, fun l w hl hw => q1 _ (by omega)⟩, ⟨z2, w2, fun l hl => q2 l (by omega)⟩, ⟨f3, xat_fr h3 fr (by omega)⟩⟩, fr⟩
    · intro k fr hk
      have hlt : ∀ i, i < n → itr f s i < n := itr_lt hf.1 s
      have hps := k2 s hs
      refine xgoal [(40, [0, 1, 2, 4, 5]), (59, [0, 1, 2, 4, 5, 6])] 100 ok_Fit_compare ?_
      refine xgf (xat_fr b0 fr (by omega)) rfl ?_
      refine pk_le (pc p) s (fun c => absurd c (by omega)) (fun _ => ?_)
      refine pk_le 8 s (fun c => absurd c (by omega)) (fun _ => ?_)
      refine up_loop (P := fun i => ∀ k : xHp, frm h k a (a + 3) → isFK k a n (kpI f p s i (kpS n f p s)) (alI f p s i (alS n f p s)) → xAt (h.1, h.2.1) g_Fit_compare Q 59 [(0, .ref a), (1, .ref b), (2, .int (R (nrm n f))), (4, .int (R (nrm n (itr f s)))), (5, .int (nI s)), (6, .int (nI i))] [] k) n ?_ (fun i hi ihi => ?_) 0 (Nat.zero_le _) k fr hk
      · intro k fr hk
        refine xgoal [(40, [0, 1, 2, 4, 5]), (59, [0, 1, 2, 4, 5, 6])] 100 ok_Fit_compare ?_
        refine xgf hk.1 rfl ?_
        refine pk_le n n (fun _ => ?_) (fun c => absurd c (by omega))
        refine xgf hk.1 rfl ?_
        have e1 : R (nrm n (itr f (s + 1))) = R (nrm n (fun i => itr f s (f i))) := R_nrm (fun i _ => itr_add f s 1 i)
        refine xci (sp_Row_turned (f := itr f s) (g := f) hn (fun i hi => by have := hlt i hi; omega) hf.1 k) ?_
        have ih := ih k fr hk
        rw [e1, ← nI_1 s] at ih
        exact ih
      · intro k fr hk
        obtain ⟨w0, ⟨z1, w1, q1⟩, ⟨z2, w2, q2⟩⟩ := hk
        have hli := hlt i hi
        have hpi := hps i hi
        unfold kpI alI at ihi
        refine xgoal [(40, [0, 1, 2, 4, 5]), (59, [0, 1, 2, 4, 5, 6])] 100 ok_Fit_compare ?_
        refine xgf w0 rfl ?_
        refine pk_le n i (fun c => absurd c (by omega)) (fun _ => ?_)
        have sp1 := sp_Row_entry (f := nrm n (itr f s)) (i := i) (nrm_b8 (fun j hj => by have := hlt j hj; omega)) (by omega) k
        rw [nrm_in hi] at sp1
        refine xci sp1 ?_
        refine xgf (xat_fr b0 fr (by omega)) rfl ?_
        refine xal (xat_fr b1 fr (by omega)) rfl (show s < 8 by omega) (by decide) ?_
        have sp2 := sp_Row_entry (f := nrm n (pst p s)) (i := i) (nrm_b8 (fun j hj => by have := hps j hj; omega)) (by omega) k
        rw [nrm_in hi, ← r1 s hs] at sp2
        refine xci sp2 ?_
        have eix := n_ix (itr f s i) (by omega) (pst p s i) (by omega)
        refine xgf w0 rfl ?_
        refine xal w1 eix (show 8 * itr f s i + pst p s i < 64 by omega) (by decide) ?_
        refine xal w1 eix (show 8 * itr f s i + pst p s i < 64 by omega) (by decide) ?_
        have fr1 := frm_set (a := a + 1) (e := xia 64 (upd z1 (8 * itr f s i + pst p s i) (z1 (8 * itr f s i + pst p s i) + nI 1))) fr (by omega) (by omega)
        have hK : ∀ x, x < 64 → upd z1 (8 * itr f s i + pst p s i) (z1 (8 * itr f s i + pst p s i) + nI 1) x = nI (upn (kpI f p s i (kpS n f p s)) (8 * itr f s i + pst p s i) (kpI f p s i (kpS n f p s) (8 * itr f s i + pst p s i) + 1) x) := fun x hx => by
          unfold upd upn
          by_cases e : x = 8 * itr f s i + pst p s i
          · rw [if_pos e, if_pos e, q1 _ (by omega), nI_add]
          · rw [if_neg e, if_neg e, q1 x hx]
        refine xgf (xat_fr b0 fr1 (by omega)) rfl ?_
        refine xal (xat_fr b2 fr1 (by omega)) rfl (show s < 8 by omega) (by decide) ?_
        have hlk := k3 s hs
        have eb : g2 s >>> (nI i &&& 31) &&& nI 1 = nI (plk p s / 2 ^ i % 2) := by
          rw [r2 s hs, n_shr (by omega) (by omega), n_and, show (1 : Nat) = 2 ^ 1 - 1 from rfl, Nat.and_two_pow_sub_one_eq_mod]
        refine pk_eq (plk p s / 2 ^ i % 2) 1 (fun c => ?_) (fun c => ?_) eb rfl
        · rw [if_pos c] at ihi
          refine xgf (xat_set w0 (by omega)) rfl ?_
          refine xal (xat_set w2 (by omega)) rfl (show itr f s i < 8 by omega) (by decide) ?_
          refine xal (xat_set w2 (by omega)) rfl (show itr f s i < 8 by omega) (by decide) ?_
          have ihi := ihi (xset (xset k (a + 1) (xia 64 (upd z1 (8 * itr f s i + pst p s i) (z1 (8 * itr f s i + pst p s i) + nI 1)))) (a + 2) (xia 8 (upd z2 (itr f s i) (z2 (itr f s i) &&& (nI 1 <<< (nI (pst p s i) &&& 31)))))) (frm_set fr1 (by omega) (by omega)) ⟨xat_set (xat_set w0 (by omega)) (by omega), ⟨_, xat_set (xat_sf w1.1) (by omega), hK⟩, ⟨_, xat_sf (h := xset _ _ _) w2.1, fun l hl => by
            unfold upd upn
            by_cases e : l = itr f s i
            · rw [if_pos e, if_pos e, q2 _ (by omega), n_bit1 (by omega), n_and]
            · rw [if_neg e, if_neg e, q2 l hl]⟩⟩
          rw [← nI_1 i] at ihi
          exact ihi
        · rw [if_neg c] at ihi
          have ihi := ihi _ fr1 ⟨xat_set w0 (by omega), ⟨_, xat_sf w1.1, hK⟩, ⟨z2, xat_set w2 (by omega), q2⟩⟩
          rw [← nI_1 i] at ihi
          exact ihi
  refine xgoal [(40, [0, 1, 2, 4, 5]), (59, [0, 1, 2, 4, 5, 6])] 100 ok_Fit_compare ?_
  refine xpf h0 (Nat.le_of_ble_eq_true rfl) rfl ?_
  refine xgf (xat_sf h0.1) rfl ?_
  refine xcv_ (sp_JA_fill (nI 0) (xat_set h1 (by omega)) (by decide)) ?_
  refine xgf (xat_set (xat_sf h0.1) (by omega)) rfl ?_
  refine xgf (xat_set (xat_sf h0.1) (by omega)) rfl ?_
  have eA : nI 1 <<< (nI n &&& 31) - nI 1 = nI (2 ^ n - 1) := by rw [n_bit1 (by omega), pk_sub (by omega)]
  refine xcv_ (sp_JA_fill (nI 1 <<< (nI n &&& 31) - nI 1) (xat_set (xat_set h2 (by omega)) (by omega)) (by decide)) ?_
  refine xgf (xat_set (xat_set (xat_sf h0.1) (by omega)) (by omega)) rfl ?_
  refine xci (sp_Row_ascending hn _) ?_
  refine at40 0 (Nat.zero_le _) _ (frm_set (frm_set (frm_set frm_rf (by omega) (by omega)) (by omega) (by omega)) (by omega) (by omega)) ⟨xat_set (xat_set (xat_sf h0.1) (by omega)) (by omega), ⟨_, xat_set (xat_sf (h := xset _ _ _) h1.1) (by omega), fun x hx => ?_⟩, ⟨_, xat_sf (h := xset _ _ _) h2.1, fun l hl => ?_⟩⟩
  · unfold fil; rw [if_pos hx]; rfl
  · unfold fil; rw [if_pos hl]; exact eA
/-- the most kept places for a permutation: 0 if it has no cost, otherwise 1 more -/
def cst (n : Nat) (f : Nat → Nat) (p : Pv) : Nat := mM n (KPp n f p) (ALp n f p) 0
theorem cst_le {n : Nat} {f : Nat → Nat} {p : Pv} (hn : n ≤ 7) (hk : pok n p) (hf : PM n f) : cst n f p ≤ n * pc p + 1 ∧ n * pc p ≤ 56 := by
  have := mM_le (AL := ALp n f p) hn (fun l w hl hw => ((PK_p hn hk hf).2 l w hl hw).1) 0 (Nat.two_pow_pos n)
  rw [show pop 0 = 0 by decide, Nat.sub_zero] at this
  exact ⟨this, mul78 hn hk.1⟩
/-- the cost -/
def cstI (n : Nat) (f : Nat → Nat) (p : Pv) : Int32 := if cst n f p = 0 then -9 else nI (n * pc p + 1 - cst n f p)
theorem sp_Fit_changes {h : xHp} {a b n : Nat} {p : Pv} {f : Nat → Nat} (hs : shFit h a) (hp : isPoem h b n p) (hk : pok n p) (hn1 : 1 ≤ n) (hn : n ≤ 7) (hf : PM n f) (hd : a + 4 ≤ b ∨ b + 5 ≤ a) : SpecR g_Fit_changes [.ref a, .ref b, .int (R (nrm n f)), .int (nI n)] h (fun v h' => v = some (.int (cstI n f p)) ∧ isFit h' a n (KPp n f p) (ALp n f p) ∧ isMo h' a n 0 (mM n (KPp n f p) (ALp n f p)) ∧ frm h h' a (a + 4)) := by
  have hs0 := hs
  obtain ⟨n0, f1, f2, f3, h0, h1, h2, h3⟩ := hs0
  have hB := fitB_p hn hk hf
  obtain ⟨c1, c2⟩ := cst_le hn hk hf
  refine SpecR.of (by decide +kernel) (Nat.le_of_ble_eq_true rfl) (fun c hc => by cases hc; exact ⟨_, _, _, rfl, h0⟩) (fun v h' z => ⟨⟨_, z.1⟩, z.2.2.2.1, z.2.2.2.2.1⟩) (fun Q hQ => ?_)
  refine xgoal [] 100 ok_Fit_changes ?_
  refine xrv (sp_Fit_compare hs hp hk hn hf hd) ?_
  rintro h4 ⟨-, hF, fr⟩
  refine xri (sp_Fit_mostKept hF hn1 hB) ?_
  rintro r h5 ⟨e, hF2, hM, fr2⟩
  cases e
  have fr3 := frm_tr (frm_wd fr (Nat.le_refl a) (show a + 3 ≤ a + 4 by omega)) fr2 (by omega) (by omega)
  unfold cstI at hQ
  refine And.intro (fun c => ?_) (fun c => ?_)
  · rw [fI_eq0 (by show cst n f p < _; omega)] at c
    have c : cst n f p = 0 := c
    rw [if_pos c] at hQ
    exact hQ _ _ ⟨rfl, hF2, hM, fr3⟩
  · rw [fI_eq0 (by show cst n f p < _; omega)] at c
    have c : ¬ cst n f p = 0 := c
    rw [if_neg c] at hQ
    refine xgf (hp.fr fr3 (by omega)).1 rfl ?_
    refine xgf hF2.1 rfl ?_
    have := hQ _ _ ⟨rfl, hF2, hM, fr3⟩
    have e : nI (pc p) * nI n - fI (mM n (KPp n f p) (ALp n f p) 0) = nI (n * pc p + 1 - cst n f p) := by
      show nI (pc p) * nI n - fI (cst n f p) = _
      unfold fI
      rw [if_neg c, n_mul, Nat.mul_comm, pk_sub (by omega)]
      congr 1
      omega
    rw [← e] at this
    exact this
theorem pk_fle {x y : Int32} {A B : Prop} (a b : Nat) (f : a ≤ b → A) (g : b < a → B) (hx : x = fI a) (hy : y = fI b) (ha : a < 2147483648) (hb : b < 2147483648) : (x ≤ y → A) ∧ (¬ x ≤ y → B) := by
  subst hx hy
  have h := fI_lt hb ha
  rw [Int32.lt_iff_toInt_lt] at h
  refine ⟨fun z => f ?_, fun z => g ?_⟩
  · rw [Int32.le_iff_toInt_le] at z
    refine Nat.le_of_not_lt fun y => ?_
    have := h.mpr y
    omega
  · rw [Int32.le_iff_toInt_le] at z
    exact h.mp (by omega)
def mk (n : Nat) (p : Pv) (x : Nat) : Nat := cst n (unr n x) p
theorem bst_fst_le {mk : Nat → Nat} {B : Nat} : ∀ k, (∀ x, x < k → mk x ≤ B) → (bst mk k).1 ≤ B
  | 0, _ => Nat.zero_le _
  | k + 1, h => by
    have := bst_fst_le k (fun x hx => h x (by omega))
    unfold bst
    split
    · exact h k (by omega)
    · exact this
theorem sp_Fit_bestPermutation {h : xHp} {a b n : Nat} {p : Pv} (hs : shFit h a) (hp : isPoem h b n p) (hk : pok n p) (hn1 : 2 ≤ n) (hn : n ≤ 7) (hd : a + 4 ≤ b ∨ b + 5 ≤ a) : SpecR g_Fit_bestPermutation [.ref a, .ref b, .int (nI n)] h (fun v h' => v = some (.int (if (bst (mk n p) (fct n)).1 = 0 then -1 else R (nrm n (unr n (bst (mk n p) (fct n)).2)))) ∧ shFit h' a ∧ frm h h' a (a + 4)) := by
  have hs0 := hs
  obtain ⟨n0, f1, f2, f3, h0, h1, h2, h3⟩ := hs0
  have h5 := fct_le hn
  have hmk : ∀ x, mk n p x ≤ 57 := fun x => by have := cst_le hn hk (unr_PM n x); unfold mk; omega
  refine SpecR.of (by decide +kernel) (Nat.le_of_ble_eq_true rfl) (fun c hc => by cases hc; exact ⟨_, _, _, rfl, h0⟩) (fun v h' z => ⟨⟨_, z.1⟩, z.2.2.1, z.2.2.2.1⟩) (fun Q hQ => ?_)
  refine xgoal [(14, [0, 1, 2, 3, 4, 5, 6])] 100 ok_Fit_bestPermutation ?_
  refine xci (sp_Perm_count hn1 hn h) ?_
  refine up_loop (P := fun k => ∀ h' : xHp, frm h h' a (a + 4) → shFit h' a → xAt (h.1, h.2.1) g_Fit_bestPermutation Q 14 [(0, .ref a), (1, .ref b), (2, .int (nI n)), (3, .int (if (bst (mk n p) k).1 = 0 then -1 else R (nrm n (unr n (bst (mk n p) k).2)))), (4, .int (fI (bst (mk n p) k).1)), (5, .int (nI (fct n))), (6, .int (nI k))] [] h') (fct n) ?_ (fun k hk2 ih => ?_) 0 (Nat.zero_le _) h frm_rf hs
  · intro h' fr hs
    refine xgoal [(14, [0, 1, 2, 3, 4, 5, 6])] 100 ok_Fit_bestPermutation ?_
    exact pk_le (fct n) (fct n) (fun _ => hQ _ _ ⟨rfl, hs, fr⟩) (fun c => absurd c (by omega))
  · intro h' fr hs
    have hpm := unr_PM n k
    have hB := fitB_p hn hk hpm
    have hM := bst_fst_le k (fun x _ => hmk x)
    have hat := atm_ge (KP := KPp n (unr n k) p) (AL := ALp n (unr n k) p) hn
    have hat : mk n p k ≤ atm n (KPp n (unr n k) p) + 1 := hat
    have hatm : atm n (KPp n (unr n k) p) ≤ 7 * 56 := by
      have := sumN_bd (f := mol n (KPp n (unr n k) p)) (n := n) (B := 56) (fun l hl => maxN_le (fun w hw => hB.2.1 l w hl hw))
      have : n * 56 ≤ 7 * 56 := Nat.mul_le_mul_right 56 hn
      unfold atm
      omega
    have hmk1 := hmk k
    refine xgoal [(14, [0, 1, 2, 3, 4, 5, 6])] 100 ok_Fit_bestPermutation ?_
    refine pk_le (fct n) k (fun c => absurd c (by omega)) (fun _ => ?_)
    refine xci (sp_Perm_numbered (by omega) hn (by omega) h') ?_
    refine xrv (sp_Fit_compare hs (hp.fr fr (by omega)) hk hn hpm hd) ?_
    rintro h4 ⟨-, hF, fr4⟩
    have fr4' := frm_tr fr fr4 (by omega) (show a + 3 ≤ a + 4 by omega)
    refine xci (sp_Fit_atMostKept hF hB) ?_
    have skip : mk n p k ≤ (bst (mk n p) k).1 → bst (mk n p) (k + 1) = bst (mk n p) k := fun z => by
      conv => lhs; unfold bst
      rw [if_neg (by omega)]
    refine pk_fle (atm n (KPp n (unr n k) p) + 1) (bst (mk n p) k).1 (fun c => ?_) (fun c => ?_) rfl rfl (by omega) (by omega)
    · have ih := ih h4 fr4' hF.sh
      rw [skip (by omega), ← nI_1 k] at ih
      exact ih
    · refine xri (sp_Fit_mostKept hF (by omega) hB) ?_
      rintro r h5 ⟨e, hF2, -, fr5⟩
      cases e
      have fr5' := frm_tr fr4' fr5 (by omega) (by omega)
      refine pk_fle (mk n p k) (bst (mk n p) k).1 (fun c => ?_) (fun c => ?_) rfl rfl (by omega) (by omega)
      · have ih := ih h5 fr5' hF2.sh
        rw [skip c, ← nI_1 k] at ih
        exact ih
      · have eb : bst (mk n p) (k + 1) = (mk n p k, k) := by
          conv => lhs; unfold bst
          rw [if_pos c]
        have ih := ih h5 fr5' hF2.sh
        rw [eb, if_neg (show ¬ mk n p k = 0 by omega), ← nI_1 k] at ih
        exact ih
