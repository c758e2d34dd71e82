/-! Poem's turns; Rhymes -/
theorem bms_bit {f : Nat → Nat} (v : Nat) : ∀ n, (bms f n).testBit v = true ↔ ∃ i, i < n ∧ f i = v
  | 0 => ⟨fun h => by simp [bms] at h, fun h => by obtain ⟨i, h, -⟩ := h; omega⟩
  | n + 1 => by
    unfold bms
    rw [Nat.testBit_or, Bool.or_eq_true, bms_bit v n, Nat.testBit_two_pow]
    constructor
    · rintro (⟨i, h1, h2⟩ | h)
      · exact ⟨i, by omega, h2⟩
      · exact ⟨n, by omega, by simpa using h⟩
    · rintro ⟨i, h1, h2⟩
      by_cases e : i = n
      · subst e; exact Or.inr (by simpa using h2)
      · exact Or.inl ⟨i, by omega, h2⟩
theorem prop_PM {n : Nat} {f : Nat → Nat} (hf : ∀ i, i < n → f i < n) : prop n f = true ↔ PM n f := by
  unfold prop
  rw [decide_eq_true_eq]
  constructor
  · intro h
    have hs : ∀ v, v < n → ∃ i, i < n ∧ f i = v := fun v hv => by
      refine (bms_bit v n).mp ?_
      rw [h, Nat.testBit_two_pow_sub_one]
      simpa using hv
    have hg : PM n (fun v => if hv : v < n then Classical.choose (hs v hv) else 0) := by
      refine ⟨fun v hv => ?_, fun v w hv hw e => ?_⟩
      · show (if hv : v < n then Classical.choose (hs v hv) else 0) < n
        rw [dif_pos hv]; exact (Classical.choose_spec (hs v hv)).1
      · have e : (if hv : v < n then Classical.choose (hs v hv) else 0) = (if hw : w < n then Classical.choose (hs w hw) else 0) := e
        rw [dif_pos hv, dif_pos hw] at e
        rw [← (Classical.choose_spec (hs v hv)).2, ← (Classical.choose_spec (hs w hw)).2, e]
    have key : ∀ i, i < n → ∃ v, ∃ hv : v < n, Classical.choose (hs v hv) = i ∧ f i = v := fun i hi => by
      obtain ⟨v, hv, e⟩ := PM_sur hg hi
      have e : (if hv : v < n then Classical.choose (hs v hv) else 0) = i := e
      rw [dif_pos hv] at e
      exact ⟨v, hv, e, by rw [← e]; exact (Classical.choose_spec (hs v hv)).2⟩
    refine ⟨hf, fun i j hi hj e => ?_⟩
    obtain ⟨v, hv, e1, e2⟩ := key i hi
    obtain ⟨w, hw, e3, e4⟩ := key j hj
    have : v = w := by rw [← e2, ← e4, e]
    subst this
    rw [← e1, ← e3]
  · intro h
    apply Nat.eq_of_testBit_eq
    intro v
    rw [Nat.testBit_two_pow_sub_one]
    by_cases hv : v < n
    · rw [(bms_bit v n).mpr (PM_sur h hv)]
      simp [hv]
    · have : ¬ (bms f n).testBit v = true := fun z => by
        obtain ⟨i, hi, e⟩ := (bms_bit v n).mp z
        have := hf i hi; omega
      simp [hv, this]
/-- whether a stanza has a proper next one, and is proper -/
def tbh (n : Nat) (p : Pv) (s : Nat) : Bool := decide (s + 1 < pc p) && (prop n (pst p s) && prop n (pst p (s + 1)))
/-- the permutation from a stanza to the next one -/
def tbp (n : Nat) (p : Pv) (s : Nat) : Nat → Nat := fun i => inv n (pst p s) (pst p (s + 1) i)
theorem tbp_PM {n s : Nat} {p : Pv} (hk : pok n p) (ht : tbh n p s = true) : PM n (pst p s) ∧ PM n (pst p (s + 1)) ∧ PM n (tbp n p s) := by
  unfold tbh at ht
  rw [Bool.and_eq_true, Bool.and_eq_true, decide_eq_true_eq] at ht
  obtain ⟨h1, h2, h3⟩ := ht
  have p1 := (prop_PM (hk.2.1 s (by omega))).mp h2
  have p2 := (prop_PM (hk.2.1 (s + 1) h1)).mp h3
  have p3 := inv_PM p1
  exact ⟨p1, p2, fun i hi => p3.1 _ (p2.1 i hi), fun i j hi hj e => p2.2 i j hi hj (p3.2 _ _ (p2.1 i hi) (p2.1 j hj) e)⟩
theorem sp_Poem_turnBehind {h : xHp} {a n s : Nat} {p : Pv} (hn : n ≤ 7) (hp : isPoem h a n p) (hk : pok n p) (hs : s ≤ 8) : Spec g_Poem_turnBehind [.ref a, .int (nI s), .int (nI n)] h (some (.int (if tbh n p s = true then R (nrm n (tbp n p s)) else -1))) h := by
  obtain ⟨h0, ⟨f1, h1, r1⟩, -⟩ := hp
  have k1 := hk.1
  have k2 := hk.2.1
  refine Spec.of (by decide +kernel) (Nat.le_of_ble_eq_true rfl) ⟨_, rfl⟩ rfl rfl (fun c hc => by cases hc; exact ⟨_, _, _, rfl, h0⟩) (fun Q hQ => ?_)
  refine xgoal [] 100 ok_Poem_turnBehind ?_
  refine xgf h0 rfl ?_
  refine pk_le (pc p) (s + 1) (fun c => ?_) (fun c => ?_) rfl (nI_1 s)
  · rw [if_neg (by unfold tbh; rw [decide_eq_false (by omega)]; simp)] at hQ
    exact hQ
  · have e1 : nI s + nI 1 = nI (s + 1) := nI_1 s
    refine xgf h0 rfl ?_
    refine xal h1 rfl (show s < 8 by omega) (by decide) ?_
    have sp1 := sp_hasEach (n := n) (f := pst p s) hn (fun i hi => by have := k2 s (by omega) i hi; omega) h
    rw [← r1 s (by omega)] at sp1
    refine xci sp1 ?_
    by_cases c1 : prop n (pst p s) = true
    · refine pk_eq 1 0 (fun c => absurd c (by omega)) (fun _ => ?_) (by rw [if_pos c1]) rfl
      refine xgf h0 rfl ?_
      refine xal h1 e1 (show s + 1 < 8 by omega) (by decide) ?_
      have sp2 := sp_hasEach (n := n) (f := pst p (s + 1)) hn (fun i hi => by have := k2 (s + 1) (by omega) i hi; omega) h
      rw [← r1 (s + 1) (by omega)] at sp2
      refine xci sp2 ?_
      by_cases c2 : prop n (pst p (s + 1)) = true
      · have ht : tbh n p s = true := by unfold tbh; rw [c1, c2, decide_eq_true (by omega)]; rfl
        obtain ⟨p1, p2, p3⟩ := tbp_PM hk ht
        have p4 := inv_PM p1
        rw [if_pos ht] at hQ
        refine pk_eq 1 0 (fun c => absurd c (by omega)) (fun _ => ?_) (by rw [if_pos c2]) rfl
        refine xgf h0 rfl ?_
        refine xal h1 rfl (show s < 8 by omega) (by decide) ?_
        have sp3 := sp_Perm_inverse hn p1 h
        rw [← r1 s (by omega)] at sp3
        refine xci sp3 ?_
        refine xgf h0 rfl ?_
        refine xal h1 e1 (show s + 1 < 8 by omega) (by decide) ?_
        have sp4 := sp_Row_turned (f := inv n (pst p s)) (g := pst p (s + 1)) hn (fun i hi => by have := p4.1 i hi; omega) p2.1 h
        rw [← r1 (s + 1) (by omega)] at sp4
        exact xci sp4 hQ
      · rw [if_neg (by unfold tbh; simp [c2])] at hQ
        exact pk_eq 0 0 (fun _ => hQ) (fun c => absurd rfl c) (by rw [if_neg c2]) rfl
    · rw [if_neg (by unfold tbh; simp [c1])] at hQ
      exact pk_eq 0 0 (fun _ => hQ) (fun c => absurd rfl c) (by rw [if_neg c1]) rfl
/-- whether a poem follows a permutation -/
def flw (n : Nat) (p : Pv) (f : Nat → Nat) : Bool := decide ((∀ s, s < pc p → prop n (pst p s) = true) ∧ ∀ s, s < pc p - 1 → ∀ i, i < n → pst p (s + 1) i = pst p s (f i))
theorem ct_full {p : Nat → Bool} : ∀ {n : Nat}, n ≤ ct p n ↔ ∀ k, k < n → p k = true
  | 0 => ⟨fun _ k hk => absurd hk (Nat.not_lt_zero k), fun _ => Nat.le_refl _⟩
  | n + 1 => by
    have h1 := ct_le p n
    have ih := ct_full (p := p) (n := n)
    unfold ct
    by_cases hp : p n = true
    · rw [if_pos hp]
      constructor
      · intro h k hk
        by_cases e : k = n
        · subst e; exact hp
        · exact ih.mp (by omega) k (by omega)
      · intro h
        have := ih.mpr (fun k hk => h k (by omega))
        omega
    · rw [if_neg hp]
      exact ⟨fun h => absurd h (by omega), fun h => absurd (h n (by omega)) hp⟩
theorem sp_Poem_turnsBy {h : xHp} {a n : Nat} {p : Pv} {f : Nat → Nat} (hn : n ≤ 7) (hp : isPoem h a n p) (hk : pok n p) (hf : PM n f) : Spec g_Poem_turnsBy [.ref a, .int (R (nrm n f)), .int (nI n)] h (some (.int (nI (if flw n p f = true then 1 else 0)))) h := by
  have hp0 := hp
  obtain ⟨h0, ⟨f1, h1, r1⟩, -⟩ := hp
  have k1 := hk.1
  have k2 := hk.2.1
  refine Spec.of (by decide +kernel) (Nat.le_of_ble_eq_true rfl) ⟨_, rfl⟩ rfl rfl (fun c hc => by cases hc; exact ⟨_, _, _, rfl, h0⟩) (fun Q hQ => ?_)
  refine xgoal [(16, [0, 1, 2, 3])] 100 ok_Poem_turnsBy ?_
  refine xci (sp_Poem_properStanzas hn hp0 hk) ?_
  refine xgf h0 rfl ?_
  have hcl := ct_le (fun s => prop n (pst p s)) (pc p)
  refine pk_le (pc p) (ct (fun s => prop n (pst p s)) (pc p)) (fun c => ?_) (fun c => ?_)
  · have hall := ct_full.mp c
    refine up_loop (P := fun s => 1 ≤ s → (∀ t, t + 1 < s → ∀ i, i < n → pst p (t + 1) i = pst p t (f i)) → xAt (h.1, h.2.1) g_Poem_turnsBy Q 16 [(0, .ref a), (1, .int (R (nrm n f))), (2, .int (nI n)), (3, .int (nI s))] [] h) (max 1 (pc p)) ?_ (fun s hs ih => ?_) 1 (by omega) (Nat.le_refl _) (fun t ht => absurd ht (by omega))
    · intro _ ha
      refine xgoal [(16, [0, 1, 2, 3])] 100 ok_Poem_turnsBy ?_
      refine xgf h0 rfl ?_
      refine pk_le (pc p) (max 1 (pc p)) (fun c => ?_) (fun c => absurd c (by omega))
      rw [if_pos (by unfold flw; exact decide_eq_true ⟨hall, fun s hs => ha s (by omega)⟩)] at hQ
      exact ⟨Or.inr rfl, hQ⟩
    · intro hs1 ha
      have e1 : nI s - nI 1 = nI (s - 1) := pk_sub hs1
      refine xgoal [(16, [0, 1, 2, 3])] 100 ok_Poem_turnsBy ?_
      refine xgf h0 rfl ?_
      refine pk_le (pc p) s (fun c => absurd c (by omega)) (fun c => ?_)
      refine xgf h0 rfl ?_
      refine xal h1 rfl (show s < 8 by omega) (by decide) ?_
      refine xgf h0 rfl ?_
      refine xal h1 e1 (show s - 1 < 8 by omega) (by decide) ?_
      have sp := sp_Row_turned (f := pst p (s - 1)) (g := f) hn (fun i hi => by have := k2 (s - 1) (by omega) i hi; omega) hf.1 h
      rw [← r1 (s - 1) (by omega)] at sp
      refine xci sp ?_
      have hR : ∀ {A B : Prop}, ((∀ i, i < n → pst p s i = pst p (s - 1) (f i)) → A) → (¬ (∀ i, i < n → pst p s i = pst p (s - 1) (f i)) → B) → (f1 s = R (nrm n (fun i => pst p (s - 1) (f i))) → A) ∧ (¬ f1 s = R (nrm n (fun i => pst p (s - 1) (f i))) → B) := by
        intro A B t e
        rw [r1 s (by omega)]
        exact pk_R hn (fun i hi => by have := k2 s (by omega) i hi; omega) (fun i hi => by have := k2 (s - 1) (by omega) _ (hf.1 i hi); omega) t e
      refine hR (fun c2 => ?_) (fun c2 => ?_)
      · have ih := ih (by omega) (fun t ht i hi => by
          by_cases e : t + 1 = s
          · rw [e, c2 i hi, show s - 1 = t by omega]
          · exact ha t (by omega) i hi)
        rw [← nI_1 s] at ih
        exact ih
      · rw [if_neg (by
          unfold flw
          rw [decide_eq_true_eq]
          rintro ⟨-, z⟩
          refine c2 (fun i hi => ?_)
          have := z (s - 1) (by omega) i hi
          rwa [show s - 1 + 1 = s by omega] at this)] at hQ
        exact ⟨Or.inl rfl, hQ⟩
  · rw [if_neg (by
      unfold flw
      rw [decide_eq_true_eq]
      rintro ⟨z, -⟩
      have := ct_full.mpr z
      omega)] at hQ
    exact ⟨Or.inl rfl, hQ⟩
def prew (p : Pv) (g f : Nat → Nat) : Pv := (pc p, fun s i => g (itr f s i), plk p, ptl p, ptn p, ptw p)
theorem sp_Poem_rewrite {h : xHp} {a n : Nat} {p : Pv} {g f : Nat → Nat} (hn : n ≤ 7) (hp : isPoem h a n p) (hk : pok n p) (hg : ∀ i, i < n → g i < n) (hf : PM n f) : SpecR g_Poem_rewrite [.ref a, .int (R (nrm n g)), .int (R (nrm n f)), .int (nI n)] h (fun v h' => v = none ∧ isPoem h' a n (prew p g f) ∧ frm h h' a (a + 5)) := by
  obtain ⟨h0, ⟨f1, h1, r1⟩, ⟨f2, h2, r2⟩, ⟨f3, h3, r3⟩, ⟨f4, h4, r4⟩⟩ := hp
  have k1 := hk.1
  refine SpecR.of (by decide +kernel) (Nat.le_of_ble_eq_true rfl) (fun c hc => by cases hc; exact ⟨_, _, _, rfl, h0⟩) (fun v h' z => ⟨z.1, z.2.2.1, z.2.2.2.1⟩) (fun Q hQ => ?_)
  refine xgoal [(6, [0, 2, 3, 4, 5])] 100 ok_Poem_rewrite ?_
  have key := up_loop (P := fun s => xAt (h.1, h.2.1) g_Poem_rewrite Q 6 [(0, .ref a), (2, .int (R (nrm n f))), (3, .int (nI n)), (4, .int (R (nrm n (fun i => g (itr f s i))))), (5, .int (nI s))] [] (xset h (a + 1) (xia 8 (fun j => if j < s then R (nrm n (fun i => g (itr f j i))) else f1 j)))) (pc p) ?_ (fun s hs ih => ?_) 0 (Nat.zero_le _)
  · have e : xset h (a + 1) (xia 8 (fun j => if j < 0 then R (nrm n (fun i => g (itr f j i))) else f1 j)) = h := xset_id h1
    rw [e] at key
    exact key
  · refine xgoal [(6, [0, 2, 3, 4, 5])] 100 ok_Poem_rewrite ?_
    refine xgf (xat_set h0 (by omega)) rfl ?_
    refine pk_le (pc p) (pc p) (fun c => ?_) (fun c => absurd c (by omega))
    refine hQ _ _ ⟨rfl, ⟨xat_set h0 (by omega), ⟨_, xat_sf h1.1, fun s hs => if_pos hs⟩, ⟨f2, xat_set h2 (by omega), r2⟩, ⟨f3, xat_set h3 (by omega), r3⟩, ⟨f4, xat_set h4 (by omega), r4⟩⟩, frm_set frm_rf (by omega) (by omega)⟩
  · have hgf : ∀ i, i < n → g (itr f s i) < 8 := fun i hi => by have := hg _ (itr_lt hf.1 s i hi); omega
    refine xgoal [(6, [0, 2, 3, 4, 5])] 100 ok_Poem_rewrite ?_
    refine xgf (xat_set h0 (by omega)) rfl ?_
    refine pk_le (pc p) s (fun c => absurd c (by omega)) (fun c => ?_)
    refine xgf (xat_set h0 (by omega)) rfl ?_
    refine xal (xat_sf h1.1) rfl (show s < 8 by omega) (by decide) ?_
    have sp := sp_Row_turned (f := fun i => g (itr f s i)) (g := f) hn hgf hf.1 (xset (xset h (a + 1) (xia 8 (fun j => if j < s then R (nrm n (fun i => g (itr f j i))) else f1 j))) (a + 1) (xia 8 (upd (fun j => if j < s then R (nrm n (fun i => g (itr f j i))) else f1 j) s (R (nrm n (fun i => g (itr f s i)))))))
    refine xci sp ?_
    have e1 : R (nrm n (fun i => g (itr f (s + 1) i))) = R (nrm n (fun i => g (itr f s (f i)))) := R_nrm (fun i _ => congrArg g (itr_add f s 1 i))
    have e2 : (fun j => if j < s + 1 then R (nrm n (fun i => g (itr f j i))) else f1 j) = upd (fun j => if j < s then R (nrm n (fun i => g (itr f j i))) else f1 j) s (R (nrm n (fun i => g (itr f s i)))) := by
      funext j
      show (if j < s + 1 then R (nrm n (fun i => g (itr f j i))) else f1 j) = if j = s then R (nrm n (fun i => g (itr f s i))) else if j < s then R (nrm n (fun i => g (itr f j i))) else f1 j
      by_cases e : j = s
      · subst e; rw [if_pos (by omega), if_pos rfl]
      · rw [if_neg e]
        by_cases e3 : j < s
        · rw [if_pos e3, if_pos (by omega)]
        · rw [if_neg e3, if_neg (by omega)]
    rw [e1, e2, ← nI_1 s, ← xset_set] at ih
    exact ih
/-! Rhymes -/
/-- the first line with the sound of line i -/
def frh (z : Nat → Nat) (i : Nat) : Nat := sr (fun k => decide (z k = z i)) i 0
theorem frh_le (z : Nat → Nat) (i : Nat) : frh z i ≤ i := by have := sr_le (fun k => decide (z k = z i)) i 0; unfold frh; omega
def patA (z : Nat → Nat) : Nat → Nat
  | 0 => 0
  | i + 1 => patA z i * 7 + frh z i
theorem patA_lt (z : Nat → Nat) : ∀ i, i ≤ 7 → patA z i < 7 ^ i
  | 0, _ => Nat.zero_lt_one
  | i + 1, h => by
    have h1 := patA_lt z i (by omega)
    have h2 := frh_le z i
    unfold patA
    rw [Nat.pow_succ]
    omega
theorem patA_lt2 {z : Nat → Nat} {n : Nat} (hn : n ≤ 7) : patA z n < 823543 := Nat.lt_of_lt_of_le (patA_lt z n hn) (Nat.pow_le_pow_right (by omega) hn)
theorem frh_congr {z z' : Nat → Nat} {i : Nat} (h : ∀ k, k ≤ i → z k = z' k) : frh z i = frh z' i := sr_congr (fun j _ hj => by rw [h j (by omega), h i (Nat.le_refl _)])
theorem patA_congr {z z' : Nat → Nat} : ∀ {n : Nat}, (∀ k, k < n → z k = z' k) → patA z n = patA z' n
  | 0, _ => rfl
  | n + 1, h => by
    unfold patA
    rw [patA_congr (n := n) (fun k hk => h k (by omega)), frh_congr (fun k hk => h k (by omega))]
/-- the different schemes of the first t turns -/
def dls (z f : Nat → Nat) (n : Nat) : Nat → List Nat
  | 0 => []
  | t + 1 => if patA (fun i => z (itr f t i)) n ∈ dls z f n t then dls z f n t else dls z f n t ++ [patA (fun i => z (itr f t i)) n]
theorem dls_le (z f : Nat → Nat) (n : Nat) : ∀ t, (dls z f n t).length ≤ t
  | 0 => Nat.le_refl _
  | t + 1 => by
    have := dls_le z f n t
    unfold dls
    split
    · omega
    · rw [List.length_append, List.length_singleton]; omega
theorem dls_lt {z f : Nat → Nat} {n : Nat} (hn : n ≤ 7) : ∀ t, ∀ x ∈ dls z f n t, x < 823543
  | 0, x, h => by cases h
  | t + 1, x, h => by
    unfold dls at h
    split at h
    · exact dls_lt hn t x h
    · rcases List.mem_append.mp h with h | h
      · exact dls_lt hn t x h
      · rw [List.mem_singleton.mp h]; exact patA_lt2 hn
theorem ord_le (n : Nat) (f : Nat → Nat) : 1 ≤ ord n f ∧ ord n f ≤ 12 := ⟨sr_ge _ _ _, sr_le _ _ _⟩
/-- rhymes of neighbors -/
def nbr (n : Nat) (z : Nat → Nat) : Nat := ct (fun i => decide (z i = z (i + 1))) (n - 1)
/-- the best number among 0 to k -/
def mnb (n : Nat) (z : Nat → Nat) : Nat → Nat
  | 0 => 0
  | k + 1 => if nbr n (fun i => z (unr n (mnb n z k) i)) < nbr n (fun i => z (unr n (k + 1) i)) then k + 1 else mnb n z k
theorem mnb_le (n : Nat) (z : Nat → Nat) : ∀ k, mnb n z k ≤ k
  | 0 => Nat.le_refl _
  | k + 1 => by
    have := mnb_le n z k
    unfold mnb
    split <;> omega
