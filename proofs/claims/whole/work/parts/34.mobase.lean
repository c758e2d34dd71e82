/-! THE REFERENCE: its page and rows -/
def obM (B : Nat) (rem typed lines mw spot : Int32) : xE := xob 9 [.ref (B + 1), .int rem, .ref (B + 2), .int typed, .ref (B + 3), .ref (B + 4), .ref (B + 5), .ref (B + 6), .ref (B + 7), .int lines, .ref (B + 8), .int mw, .int spot, .ref (B + 9), .ref (B + 10), .ref (B + 11), .ref (B + 12), .ref (B + 13)]
def bM (h : xHp) (B n : Nat) (F : Nat → Int32) : Prop := (∃ rem typed lines mw spot, xat h B (obM B rem typed lines mw spot)) ∧ xat h (B + 1) (xia 1620 F) ∧ F 0 = nI n
theorem bM.fr {h h' : xHp} {B n lo hi : Nat} {F : Nat → Int32} (b : bM h B n F) (f : frm h h' lo hi) (hd : B + 2 ≤ lo ∨ hi ≤ B) : bM h' B n F := by
  obtain ⟨⟨rem, typed, lines, mw, spot, b0⟩, b1, b2⟩ := b
  exact ⟨⟨rem, typed, lines, mw, spot, xat_fr b0 f (by omega)⟩, xat_fr b1 f (by omega), b2⟩
/-- a row that holds f -/
def isRw (h : xHp) (c n : Nat) (f : Nat → Nat) : Prop := ∃ g, xat h c (xia 7 g) ∧ ∀ i, i < n → g i = nI (f i)
def shRw (h : xHp) (c : Nat) : Prop := ∃ g, xat h c (xia 7 g)
theorem isRw.sh {h : xHp} {c n : Nat} {f : Nat → Nat} (r : isRw h c n f) : shRw h c := ⟨r.choose, r.choose_spec.1⟩
theorem isRw.fr {h h' : xHp} {c n lo hi : Nat} {f : Nat → Nat} (r : isRw h c n f) (z : frm h h' lo hi) (hd : c < lo ∨ hi ≤ c) : isRw h' c n f := by
  obtain ⟨g, g1, g2⟩ := r
  exact ⟨g, xat_fr g1 z hd, g2⟩
theorem shRw.fr {h h' : xHp} {c lo hi : Nat} (r : shRw h c) (z : frm h h' lo hi) (hd : c < lo ∨ hi ≤ c) : shRw h' c := by
  obtain ⟨g, g1⟩ := r
  exact ⟨g, xat_fr g1 z hd⟩
theorem isRw.congr {h : xHp} {c n : Nat} {f f' : Nat → Nat} (r : isRw h c n f) (e : ∀ i, i < n → f i = f' i) : isRw h c n f' := by
  obtain ⟨g, g1, g2⟩ := r
  exact ⟨g, g1, fun i hi => by rw [← e i hi]; exact g2 i hi⟩
theorem bM_rc {h : xHp} {B n : Nat} {F : Nat → Int32} (b : bM h B n F) : ∃ fs, xat h B (xob 9 fs) := by
  obtain ⟨⟨rem, typed, lines, mw, spot, b0⟩, -⟩ := b
  exact ⟨_, b0⟩
theorem n_add0 (x : Nat) : nI x + nI 0 = nI x := nI_add x 0
theorem sp_Mo_in (v lo hi : Int32) (h : xHp) : Spec g_Mo_in [.int v, .int lo, .int hi] h (some (.int (nI (if lo ≤ v ∧ v ≤ hi then 1 else 0)))) h := by
  refine Spec.of (by decide +kernel) (Nat.le_of_ble_eq_true rfl) ⟨_, rfl⟩ rfl rfl (fun c hc => by cases hc) (fun Q hQ => ?_)
  refine xgoal [] 100 ok_Mo_in ?_
  refine And.intro (fun c => ?_) (fun c => And.intro (fun c2 => ?_) (fun c2 => ?_))
  · rw [if_neg (by rw [Int32.le_iff_toInt_le]; rw [Int32.lt_iff_toInt_lt] at c; omega)] at hQ; exact ⟨Or.inl rfl, hQ⟩
  · rw [if_neg (by rw [Int32.le_iff_toInt_le, Int32.le_iff_toInt_le]; rw [Int32.lt_iff_toInt_lt] at c2; omega)] at hQ; exact ⟨Or.inl rfl, hQ⟩
  · rw [if_pos (by rw [Int32.le_iff_toInt_le, Int32.le_iff_toInt_le]; rw [Int32.lt_iff_toInt_lt] at c c2; omega)] at hQ; exact ⟨Or.inr rfl, hQ⟩
theorem nI_dm1 {m : Nat} (hm : m < 2147483648) : (nI m - nI 1).toInt = (m : Int) - 1 := by
  by_cases c : m = 0
  · subst c; decide
  · rw [pk_sub (by omega), nI_toInt (by omega)]; omega
theorem in_ib {m : Nat} {x : Int32} (hm : m < 2147483648) : (if nI 0 ≤ x ∧ x ≤ nI m - nI 1 then 1 else 0) = ib m x := by
  have e1 : (nI 0 ≤ x ∧ x ≤ nI m - nI 1) ↔ (0 ≤ x.toInt ∧ x.toInt < m) := by
    rw [Int32.le_iff_toInt_le, Int32.le_iff_toInt_le, nI_dm1 hm, nI_toInt (by omega)]
    omega
  unfold ib ix
  by_cases c : 0 ≤ x.toInt ∧ x.toInt < m
  · rw [if_pos (e1.mpr c), if_pos c]
  · rw [if_neg (fun z => c (e1.mp z)), if_neg c]
theorem sp_Mo_isRegister (x : Int32) (h : xHp) : Spec g_Mo_isRegister [.int x] h (some (.int (nI (ib 6 x)))) h := by
  refine Spec.of (by decide +kernel) (Nat.le_of_ble_eq_true rfl) ⟨_, rfl⟩ rfl rfl (fun c hc => by cases hc) (fun Q hQ => ?_)
  refine xgoal [] 100 ok_Mo_isRegister ?_
  rw [← in_ib (by omega)] at hQ
  refine xci (sp_Mo_in x (nI 0) (nI 6 - nI 1) h) ⟨?_, hQ⟩
  split
  · exact Or.inr rfl
  · exact Or.inl rfl
theorem sp_Mo_isSet (x : Int32) (h : xHp) : Spec g_Mo_isSet [.int x] h (some (.int (nI (ib 64 x)))) h := by
  refine Spec.of (by decide +kernel) (Nat.le_of_ble_eq_true rfl) ⟨_, rfl⟩ rfl rfl (fun c hc => by cases hc) (fun Q hQ => ?_)
  refine xgoal [] 100 ok_Mo_isSet ?_
  rw [← in_ib (by omega)] at hQ
  refine xci (sp_Mo_in x (nI 0) (nI 64 - nI 1) h) ⟨?_, hQ⟩
  split
  · exact Or.inr rfl
  · exact Or.inl rfl
theorem sp_Mo_size {h : xHp} {B n : Nat} {F : Nat → Int32} (b : bM h B n F) : Spec g_Mo_size [.ref B] h (some (.int (nI n))) h := by
  obtain ⟨⟨rem, typed, lines, mw, spot, b0⟩, b1, b2⟩ := b
  refine Spec.of (by decide +kernel) (Nat.le_of_ble_eq_true rfl) ⟨_, rfl⟩ rfl rfl (fun c hc => by cases hc; exact ⟨_, _, _, rfl, b0⟩) (fun Q hQ => ?_)
  refine xgoal [] 100 ok_Mo_size ?_
  refine xgf b0 rfl ?_
  refine xal b1 rfl (show 0 < 1620 by omega) (by decide) ?_
  rw [← b2] at hQ
  exact hQ
theorem ib_01 (m : Nat) (x : Int32) : nI (ib m x) = nI 0 ∨ nI (ib m x) = nI 1 := by
  unfold ib
  split
  · exact Or.inl rfl
  · exact Or.inr rfl
theorem sp_Mo_isLine {h : xHp} {B n : Nat} {F : Nat → Int32} (x : Int32) (b : bM h B n F) (hn : n ≤ 7) : Spec g_Mo_isLine [.ref B, .int x] h (some (.int (nI (ib n x)))) h := by
  obtain ⟨fs, hr⟩ := bM_rc b
  refine Spec.of (by decide +kernel) (Nat.le_of_ble_eq_true rfl) ⟨_, rfl⟩ rfl rfl (fun c hc => by cases hc; exact ⟨_, _, _, rfl, hr⟩) (fun Q hQ => ?_)
  refine xgoal [] 100 ok_Mo_isLine ?_
  refine xci (sp_Mo_size b) ?_
  have sp := sp_Mo_in x (nI 0) (nI n - nI 1) h
  rw [in_ib (by omega)] at sp
  exact xci sp ⟨ib_01 n x, hQ⟩
theorem sp_Mo_isStanza {h : xHp} {B n p : Nat} {F : Nat → Int32} (x : Int32) (b : bM h B n F) (hp : F 50 = nI p) (hn : p ≤ 8) : Spec g_Mo_isStanza [.ref B, .int x] h (some (.int (nI (ib p x)))) h := by
  obtain ⟨⟨rem, typed, lines, mw, spot, b0⟩, b1, b2⟩ := b
  refine Spec.of (by decide +kernel) (Nat.le_of_ble_eq_true rfl) ⟨_, rfl⟩ rfl rfl (fun c hc => by cases hc; exact ⟨_, _, _, rfl, b0⟩) (fun Q hQ => ?_)
  refine xgoal [] 100 ok_Mo_isStanza ?_
  refine xgf b0 rfl ?_
  refine xal b1 rfl (show 50 < 1620 by omega) (by decide) ?_
  have sp := sp_Mo_in x (nI 0) (nI p - nI 1) h
  rw [in_ib (by omega), ← hp] at sp
  exact xci sp ⟨ib_01 p x, hQ⟩
theorem sp_Mo_placeOf {h : xHp} {B n s i : Nat} {F : Nat → Int32} (b : bM h B n F) : Spec g_Mo_placeOf [.ref B, .int (nI s), .int (nI i)] h (some (.int (nI (7 * s + i)))) h := by
  obtain ⟨fs, hr⟩ := bM_rc b
  refine Spec.of (by decide +kernel) (Nat.le_of_ble_eq_true rfl) ⟨_, rfl⟩ rfl rfl (fun c hc => by cases hc; exact ⟨_, _, _, rfl, hr⟩) (fun Q hQ => ?_)
  refine xgoal [] 100 ok_Mo_placeOf ?_
  rw [← nI_add, ← n_mul] at hQ
  exact hQ
theorem sp_Mo_takes {h : xHp} {B n r c : Nat} {f : Nat → Nat} {F : Nat → Int32} (b : bM h B n F) (hn : n ≤ 7) (hr : r < 6) (hF : ∀ i, i < n → F (8 + 7 * r + i) = nI (f i)) (hc : shRw h c) (hd : B + 2 ≤ c) : SpecR g_Mo_takes [.ref B, .int (nI r), .ref c] h (fun v h' => v = none ∧ isRw h' c n f ∧ frm h h' c (c + 1)) := by
  obtain ⟨fs, hrc⟩ := bM_rc b
  obtain ⟨g, g1⟩ := hc
  refine SpecR.of (by decide +kernel) (Nat.le_of_ble_eq_true rfl) (fun c hc => by cases hc; exact ⟨_, _, _, rfl, hrc⟩) (fun v h' z => ⟨z.1, z.2.2.1, z.2.2.2.1⟩) (fun Q hQ => ?_)
  refine xgoal [(2, [0, 1, 2, 3])] 100 ok_Mo_takes ?_
  refine up_loop (P := fun i => ∀ (k : xHp) (g : Nat → Int32), frm h k c (c + 1) → xat k c (xia 7 g) → (∀ j, j < i → g j = nI (f j)) → xAt (h.1, h.2.1) g_Mo_takes Q 2 [(0, .ref B), (1, .int (nI r)), (2, .ref c), (3, .int (nI i))] [] k) n ?_ (fun i hi ih => ?_) 0 (Nat.zero_le _) h g frm_rf g1 (fun j hj => absurd hj (Nat.not_lt_zero j))
  · intro k g fr k1 hg
    refine xgoal [(2, [0, 1, 2, 3])] 100 ok_Mo_takes ?_
    refine xci (sp_Mo_size (b.fr fr (by omega))) ?_
    exact pk_le n n (fun _ => hQ _ _ ⟨rfl, ⟨g, k1, hg⟩, fr⟩) (fun z => absurd z (by omega))
  · intro k g fr k1 hg
    have b' := b.fr fr (by omega)
    obtain ⟨⟨rem, typed, lines, mw, spot, b0⟩, b1, b2⟩ := b'
    refine xgoal [(2, [0, 1, 2, 3])] 100 ok_Mo_takes ?_
    refine xci (sp_Mo_size ⟨⟨rem, typed, lines, mw, spot, b0⟩, b1, b2⟩) ?_
    refine pk_le n i (fun z => absurd z (by omega)) (fun _ => ?_)
    refine xgf b0 rfl ?_
    have ei : nI 8 + nI 7 * nI r + nI i = nI (8 + 7 * r + i) := by rw [n_mul, nI_add, nI_add]
    refine xal b1 ei (show 8 + 7 * r + i < 1620 by omega) (by decide) ?_
    refine xal k1 rfl (show i < 7 by omega) (by decide) ?_
    have ih := ih (xset k c (xia 7 (upd g i (F (8 + 7 * r + i))))) _ (frm_set fr (by omega) (by omega)) (xat_sf k1.1) (fun j hj => by
      unfold upd
      by_cases e : j = i
      · rw [if_pos e, e]; exact hF i hi
      · rw [if_neg e]; exact hg j (by omega))
    rw [← nI_1 i] at ih
    exact ih
theorem sp_Mo_puts {h : xHp} {B n r c : Nat} {f : Nat → Nat} {F : Nat → Int32} (b : bM h B n F) (hn : n ≤ 7) (hr : r < 6) (hc : isRw h c n f) (hd : B + 2 ≤ c) : SpecR g_Mo_puts [.ref B, .ref c, .int (nI r)] h (fun v h' => v = none ∧ (∃ F', xat h' (B + 1) (xia 1620 F') ∧ (∀ i, i < n → F' (8 + 7 * r + i) = nI (f i)) ∧ ∀ x, (x < 8 + 7 * r ∨ 8 + 7 * r + n ≤ x) → F' x = F x) ∧ frm h h' (B + 1) (B + 2)) := by
  obtain ⟨⟨rem, typed, lines, mw, spot, b0⟩, b1, b2⟩ := b
  obtain ⟨g, g1, g2⟩ := hc
  refine SpecR.of (by decide +kernel) (Nat.le_of_ble_eq_true rfl) (fun c hc => by cases hc; exact ⟨_, _, _, rfl, b0⟩) (fun v h' z => ⟨z.1, z.2.2.1, z.2.2.2.1⟩) (fun Q hQ => ?_)
  refine xgoal [(2, [0, 1, 2, 3])] 100 ok_Mo_puts ?_
  refine up_loop (P := fun i => ∀ (k : xHp) (F' : Nat → Int32), frm h k (B + 1) (B + 2) → xat k (B + 1) (xia 1620 F') → (∀ j, j < i → F' (8 + 7 * r + j) = nI (f j)) → (∀ x, (x < 8 + 7 * r ∨ 8 + 7 * r + n ≤ x) → F' x = F x) → xAt (h.1, h.2.1) g_Mo_puts Q 2 [(0, .ref B), (1, .ref c), (2, .int (nI r)), (3, .int (nI i))] [] k) n ?_ (fun i hi ih => ?_) 0 (Nat.zero_le _) h F frm_rf b1 (fun j hj => absurd hj (Nat.not_lt_zero j)) (fun _ _ => rfl)
  · intro k F' fr k1 hg hx
    refine xgoal [(2, [0, 1, 2, 3])] 100 ok_Mo_puts ?_
    refine xci (sp_Mo_size ⟨⟨rem, typed, lines, mw, spot, xat_fr b0 fr (by omega)⟩, k1, (hx 0 (by omega)).trans b2⟩) ?_
    exact pk_le n n (fun _ => hQ _ _ ⟨rfl, ⟨F', k1, hg, hx⟩, fr⟩) (fun z => absurd z (by omega))
  · intro k F' fr k1 hg hx
    have k0 := xat_fr b0 fr (by omega)
    refine xgoal [(2, [0, 1, 2, 3])] 100 ok_Mo_puts ?_
    refine xci (sp_Mo_size ⟨⟨rem, typed, lines, mw, spot, k0⟩, k1, (hx 0 (by omega)).trans b2⟩) ?_
    refine pk_le n i (fun z => absurd z (by omega)) (fun _ => ?_)
    refine xgf k0 rfl ?_
    have ei : nI 8 + nI 7 * nI r + nI i = nI (8 + 7 * r + i) := by rw [n_mul, nI_add, nI_add]
    refine xal (xat_fr g1 fr (by omega)) rfl (show i < 7 by omega) (by decide) ?_
    refine xal k1 ei (show 8 + 7 * r + i < 1620 by omega) (by decide) ?_
    have ih := ih (xset k (B + 1) (xia 1620 (upd F' (8 + 7 * r + i) (g i)))) _ (frm_set fr (by omega) (by omega)) (xat_sf k1.1) (fun j hj => by
      unfold upd
      by_cases e : j = i
      · rw [if_pos (by omega), e]; exact g2 i hi
      · rw [if_neg (by omega)]; exact hg j (by omega)) (fun x hx' => by
      unfold upd
      rw [if_neg (by omega)]; exact hx x hx')
    rw [← nI_1 i] at ih
    exact ih
theorem sp_Mo_factorial {h : xHp} {B n : Nat} {F : Nat → Int32} (b : bM h B n F) (hn1 : 2 ≤ n) (hn : n ≤ 7) : Spec g_Mo_factorial [.ref B] h (some (.int (nI (fct n)))) h := by
  obtain ⟨fs, hr⟩ := bM_rc b
  refine Spec.of (by decide +kernel) (Nat.le_of_ble_eq_true rfl) ⟨_, rfl⟩ rfl rfl (fun c hc => by cases hc; exact ⟨_, _, _, rfl, hr⟩) (fun Q hQ => ?_)
  refine xgoal [(4, [0, 1, 2])] 100 ok_Mo_factorial ?_
  refine up_loop (P := fun i => xAt (h.1, h.2.1) g_Mo_factorial Q 4 [(0, .ref B), (1, .int (nI (fct i))), (2, .int (nI (i + 1)))] [] h) n ?_ (fun i hi ih => ?_) 1 (by omega)
  · refine xgoal [(4, [0, 1, 2])] 100 ok_Mo_factorial ?_
    refine xci (sp_Mo_size b) ?_
    exact pk_lt n (n + 1) (fun c => hQ) (fun c => absurd c (by omega))
  · refine xgoal [(4, [0, 1, 2])] 100 ok_Mo_factorial ?_
    refine xci (sp_Mo_size b) ?_
    refine pk_lt n (i + 1) (fun c => absurd c (by omega)) (fun c => ?_)
    rw [show fct (i + 1) = fct i * (i + 1) from Nat.mul_comm _ _, ← n_mul, ← nI_1 (i + 1)] at ih
    exact ih
theorem sp_Mo_rank {h : xHp} {B n c : Nat} {f : Nat → Nat} {F : Nat → Int32} (b : bM h B n F) (hn : n ≤ 7) (hc : isRw h c n f) (hf : ∀ i, i < n → f i < 8) : Spec g_Mo_rank [.ref B, .ref c] h (some (.int (nI (rank n f)))) h := by
  obtain ⟨fs, hr⟩ := bM_rc b
  obtain ⟨g, g1, g2⟩ := hc
  refine Spec.of (by decide +kernel) (Nat.le_of_ble_eq_true rfl) ⟨_, rfl⟩ rfl rfl (fun c hc => by cases hc; exact ⟨_, _, _, rfl, hr⟩) (fun Q hQ => ?_)
  refine xgoal [(4, [0, 1, 2, 3]), (20, [0, 1, 2, 3, 4, 5])] 100 ok_Mo_rank ?_
  refine up_loop (P := fun i => xAt (h.1, h.2.1) g_Mo_rank Q 4 [(0, .ref B), (1, .ref c), (2, .int (nI (rkA f n i))), (3, .int (nI i))] [] h) n ?_ (fun i hi ih => ?_) 0 (Nat.zero_le _)
  · refine xgoal [(4, [0, 1, 2, 3]), (20, [0, 1, 2, 3, 4, 5])] 100 ok_Mo_rank ?_
    refine xci (sp_Mo_size b) ?_
    exact pk_le n n (fun _ => hQ) (fun z => absurd z (by omega))
  · refine xgoal [(4, [0, 1, 2, 3]), (20, [0, 1, 2, 3, 4, 5])] 100 ok_Mo_rank ?_
    refine xci (sp_Mo_size b) ?_
    refine pk_le n i (fun z => absurd z (by omega)) (fun _ => ?_)
    have key := up_loop (P := fun k => i < k → xAt (h.1, h.2.1) g_Mo_rank Q 20 [(0, .ref B), (1, .ref c), (2, .int (nI (rkA f n i))), (3, .int (nI i)), (4, .int (nI (ct (fun j => decide (i < j) && decide (f j < f i)) k))), (5, .int (nI k))] [] h) n ?_ (fun k hk ihk => ?_) (i + 1) (by omega) (by omega)
    · have e0 : ct (fun j => decide (i < j) && decide (f j < f i)) (i + 1) = 0 := ct_none (fun k hk => by
        have : ¬ i < k := by omega
        simp [this])
      rw [e0, ← nI_1 i] at key
      exact key
    · intro _
      refine xgoal [(4, [0, 1, 2, 3]), (20, [0, 1, 2, 3, 4, 5])] 100 ok_Mo_rank ?_
      refine xci (sp_Mo_size b) ?_
      refine pk_le n n (fun _ => ?_) (fun z => absurd z (by omega))
      refine xci (sp_Mo_size b) ?_
      have e : nI (rkA f n (i + 1)) = nI (rkA f n i) * (nI n - nI i) + nI (less f n i) := by
        rw [pk_sub (by omega), n_mul, nI_add]; rfl
      rw [e, ← nI_1 i] at ih
      exact ih
    · intro hik
      have ihk := ihk (by omega)
      have f1 := hf k hk
      have f2 := hf i hi
      refine xgoal [(4, [0, 1, 2, 3]), (20, [0, 1, 2, 3, 4, 5])] 100 ok_Mo_rank ?_
      refine xci (sp_Mo_size b) ?_
      refine pk_le n k (fun z => absurd z (by omega)) (fun _ => ?_)
      refine xal g1 rfl (show k < 7 by omega) (by decide) ?_
      refine xal g1 rfl (show i < 7 by omega) (by decide) ?_
      unfold ct at ihk
      refine pk_le (f i) (f k) (fun z => ?_) (fun z => ?_) (g2 i hi) (g2 k hk)
      · have : ¬ f k < f i := by omega
        rw [if_neg (by simp [this]), Nat.add_zero, ← n_add0 (ct (fun j => decide (i < j) && decide (f j < f i)) k), ← nI_1 k] at ihk
        exact ihk
      · rw [if_pos (by simp [z, hik]), ← nI_1, ← nI_1 k] at ihk
        exact ihk
theorem sp_Mo_unranks {h : xHp} {B n k c : Nat} {F : Nat → Int32} (b : bM h B n F) (hn1 : 1 ≤ n) (hn : n ≤ 7) (hk : k < 2147483648) (hc : shRw h c) (hd : B + 2 ≤ c) : SpecR g_Mo_unranks [.ref B, .int (nI k), .ref c] h (fun v h' => v = none ∧ isRw h' c n (unr n k) ∧ frm h h' c (c + 1)) := by
  obtain ⟨fs, hrc⟩ := bM_rc b
  obtain ⟨g, g1⟩ := hc
  refine SpecR.of (by decide +kernel) (Nat.le_of_ble_eq_true rfl) (fun c hc => by cases hc; exact ⟨_, _, _, rfl, hrc⟩) (fun v h' z => ⟨z.1, z.2.2.1, z.2.2.2.1⟩) (fun Q hQ => ?_)
  refine xgoal [(10, [0, 2, 3, 4]), (44, [0, 2, 3, 4, 5])] 100 ok_Mo_unranks ?_
  refine xci (sp_Mo_size b) ?_
  have key := up_loop (P := fun m => ∀ (kh : xHp) (g : Nat → Int32), frm h kh c (c + 1) → xat kh c (xia 7 g) → (∀ j, n - m ≤ j → j < n → g j = nI (uf n k m j)) → xAt (h.1, h.2.1) g_Mo_unranks Q 10 [(0, .ref B), (2, .ref c), (3, .int (nI (ur k m))), (4, .int (nI (n - m) + -1))] [] kh) n ?_ (fun m hm ih => ?_) 0 (Nat.zero_le _) h g frm_rf g1 (fun j h1 h2 => absurd h2 (by omega))
  · rw [Nat.sub_zero, nI_dec (by omega)] at key
    have e : nI n - nI 1 = nI (n - 1) := pk_sub hn1
    rw [← e] at key
    exact key
  · intro kh g fr k1 hg
    rw [Nat.sub_self] at hg
    refine xgoal [(10, [0, 2, 3, 4]), (44, [0, 2, 3, 4, 5])] 100 ok_Mo_unranks ?_
    refine And.intro (fun _ => hQ _ _ ⟨rfl, ⟨g, k1, fun i hi => hg i (Nat.zero_le _) hi⟩, fr⟩) (fun z => absurd ?_ z)
    rw [Nat.sub_self]; decide
  · intro kh g fr k1 hg
    have b' := b.fr fr (by omega)
    have e0 : nI (n - m) + -1 = nI (n - 1 - m) := by rw [nI_dec (by omega), show n - m - 1 = n - 1 - m by omega]
    have e1 : nI n - (nI (n - m) + -1) = nI (m + 1) := by rw [e0, pk_sub (by omega), show n - (n - 1 - m) = m + 1 by omega]
    have hur : ur k m < 2147483648 := by rw [ur_fct]; exact Nat.lt_of_le_of_lt (Nat.div_le_self _ _) hk
    have hdv : ¬ nI n - (nI (n - m) + -1) = 0 := by rw [e1]; exact nI_ne0 (by omega) (by omega)
    have hv : ur k m % (m + 1) < m + 1 := Nat.mod_lt _ (Nat.succ_pos m)
    have e2 : nI (ur k m) - nI (ur k m) / (nI n - (nI (n - m) + -1)) * (nI n - (nI (n - m) + -1)) = nI (ur k m % (m + 1)) := by rw [e1, pk_rem hur (by omega) (by omega)]
    have e3 : nI (ur k m) / (nI n - (nI (n - m) + -1)) = nI (ur k (m + 1)) := by rw [e1, pk_div hur (by omega) (by omega)]; rfl
    refine xgoal [(10, [0, 2, 3, 4]), (44, [0, 2, 3, 4, 5])] 100 ok_Mo_unranks ?_
    refine And.intro (fun z => absurd z (by rw [e0]; exact nI_pos (by omega))) (fun _ => ?_)
    refine xci (sp_Mo_size b') ?_
    refine And.intro hdv ?_
    refine xal k1 e0 (show n - 1 - m < 7 by omega) (by decide) ?_
    have fr1 := frm_set (a := c) (e := xia 7 (upd g (n - 1 - m) (nI (ur k m) - nI (ur k m) / (nI n - (nI (n - m) + -1)) * (nI n - (nI (n - m) + -1))))) fr (Nat.le_refl _) (by omega)
    refine xci (sp_Mo_size (b.fr fr1 (by omega))) ?_
    refine And.intro hdv ?_
    have uin := fun m hm => uf_PM n k m hm
    have key := up_loop (P := fun j => n - m ≤ j → ∀ (kh : xHp) (g : Nat → Int32), frm h kh c (c + 1) → xat kh c (xia 7 g) → g (n - 1 - m) = nI (ur k m % (m + 1)) → (∀ t, n - m ≤ t → t < n → g t = nI (if t < j then shf (ur k m % (m + 1)) (uf n k m t) else uf n k m t)) → xAt (h.1, h.2.1) g_Mo_unranks Q 44 [(0, .ref B), (2, .ref c), (3, .int (nI (ur k (m + 1)))), (4, .int (nI (n - m) + -1)), (5, .int (nI j))] [] kh) n ?_ (fun j hj ihj => ?_) (n - m) (by omega) (Nat.le_refl _) (xset kh c (xia 7 (upd g (n - 1 - m) (nI (ur k m) - nI (ur k m) / (nI n - (nI (n - m) + -1)) * (nI n - (nI (n - m) + -1)))))) _ fr1 (xat_sf k1.1) (by unfold upd; rw [if_pos rfl, e2]) (fun t h1 h2 => by unfold upd; rw [if_neg (by omega), if_neg (by omega)]; exact hg t h1 h2)
    · have e5 : nI (n - m) = nI (n - m) + -1 + nI 1 := by rw [e0, nI_add, show n - 1 - m + 1 = n - m by omega]
      rw [← e3] at key
      rw [show [(0, Value.ref B), (2, Value.ref c), (3, Value.int (nI (ur k m) / (nI n - (nI (n - m) + -1)))), (4, Value.int (nI (n - m) + -1)), (5, Value.int (nI (n - m)))] = [(0, Value.ref B), (2, Value.ref c), (3, Value.int (nI (ur k m) / (nI n - (nI (n - m) + -1)))), (4, Value.int (nI (n - m) + -1)), (5, Value.int (nI (n - m) + -1 + nI 1))] from by rw [← e5]] at key
      exact key
    · intro _ kh g fr k1 hg0 hg
      refine xgoal [(10, [0, 2, 3, 4]), (44, [0, 2, 3, 4, 5])] 100 ok_Mo_unranks ?_
      refine xci (sp_Mo_size (b.fr fr (by omega))) ?_
      refine pk_le n n (fun _ => ?_) (fun z => absurd z (by omega))
      have ih := ih kh g fr k1 (fun j h1 h2 => by
        unfold uf
        by_cases e : j = n - 1 - m
        · rw [if_pos e, e]; exact hg0
        · rw [if_neg e, if_pos (by omega), hg j (by omega) h2, if_pos h2])
      have e7 : nI (n - (m + 1)) + -1 = nI (n - m) + -1 + -1 := by rw [e0, show n - (m + 1) = n - 1 - m by omega]
      rw [e7] at ih
      exact ih
    · intro hj0 kh g fr k1 hg0 hg
      have ihj := ihj (by omega)
      have hgj := hg j hj0 hj
      rw [if_neg (Nat.lt_irrefl j)] at hgj
      have hlt := (uin m (by omega)).1 j hj0 hj
      refine xgoal [(10, [0, 2, 3, 4]), (44, [0, 2, 3, 4, 5])] 100 ok_Mo_unranks ?_
      refine xci (sp_Mo_size (b.fr fr (by omega))) ?_
      refine pk_le n j (fun z => absurd z (by omega)) (fun _ => ?_)
      refine xal k1 rfl (show j < 7 by omega) (by decide) ?_
      refine xal k1 rfl (show j < 7 by omega) (by decide) ?_
      refine xal k1 e0 (show n - 1 - m < 7 by omega) (by decide) ?_
      have fin : ∀ x : Int32, x = nI (shf (ur k m % (m + 1)) (uf n k m j)) → xAt (h.1, h.2.1) g_Mo_unranks Q 44 [(0, .ref B), (2, .ref c), (3, .int (nI (ur k (m + 1)))), (4, .int (nI (n - m) + -1)), (5, .int (nI j + 1))] [] (xset kh c (xia 7 (upd g j x))) := fun x hx => by
        have := ihj (xset kh c (xia 7 (upd g j x))) _ (frm_set fr (Nat.le_refl _) (by omega)) (xat_sf k1.1) (by unfold upd; rw [if_neg (by omega)]; exact hg0) (fun t h1 h2 => by
          unfold upd
          by_cases e : t = j
          · subst e; rw [if_pos rfl, if_pos (by omega)]; exact hx
          · rw [if_neg e, hg t h1 h2]
            by_cases e2 : t < j
            · rw [if_pos e2, if_pos (by omega)]
            · rw [if_neg e2, if_neg (by omega)])
        rw [← nI_1 j] at this
        exact this
      refine pk_lt (uf n k m j) (ur k m % (m + 1)) (fun z => ?_) (fun z => ?_) hgj hg0
      · refine xal k1 rfl (show j < 7 by omega) (by decide) ?_
        exact fin _ (by rw [hgj, n_add0]; unfold shf; rw [if_neg (by omega)])
      · refine xal k1 rfl (show j < 7 by omega) (by decide) ?_
        exact fin _ (by rw [hgj, nI_add]; unfold shf; rw [if_pos (by omega)])
theorem sp_Mo_multiplies {h : xHp} {B n c1 c2 c3 : Nat} {f g : Nat → Nat} {F : Nat → Int32} (b : bM h B n F) (hn : n ≤ 7) (h1 : isRw h c1 n f) (h2 : isRw h c2 n g) (hg : ∀ i, i < n → g i < n) (h3 : shRw h c3) (hd : B + 2 ≤ c3) (d1 : c1 ≠ c3) (d2 : c2 ≠ c3) : SpecR g_Mo_multiplies [.ref B, .ref c1, .ref c2, .ref c3] h (fun v h' => v = none ∧ isRw h' c3 n (fun i => f (g i)) ∧ frm h h' c3 (c3 + 1)) := by
  obtain ⟨fs, hrc⟩ := bM_rc b
  obtain ⟨u1, p1, q1⟩ := h1
  obtain ⟨u2, p2, q2⟩ := h2
  obtain ⟨u3, p3⟩ := h3
  refine SpecR.of (by decide +kernel) (Nat.le_of_ble_eq_true rfl) (fun c hc => by cases hc; exact ⟨_, _, _, rfl, hrc⟩) (fun v h' z => ⟨z.1, z.2.2.1, z.2.2.2.1⟩) (fun Q hQ => ?_)
  refine xgoal [(3, [0, 1, 2, 3, 4])] 100 ok_Mo_multiplies ?_
  refine up_loop (P := fun i => ∀ (k : xHp) (u : Nat → Int32), frm h k c3 (c3 + 1) → xat k c3 (xia 7 u) → (∀ j, j < i → u j = nI (f (g j))) → xAt (h.1, h.2.1) g_Mo_multiplies Q 3 [(0, .ref B), (1, .ref c1), (2, .ref c2), (3, .ref c3), (4, .int (nI i))] [] k) n ?_ (fun i hi ih => ?_) 0 (Nat.zero_le _) h u3 frm_rf p3 (fun j hj => absurd hj (Nat.not_lt_zero j))
  · intro k u fr k1 hu
    refine xgoal [(3, [0, 1, 2, 3, 4])] 100 ok_Mo_multiplies ?_
    refine xci (sp_Mo_size (b.fr fr (by omega))) ?_
    exact pk_le n n (fun _ => hQ _ _ ⟨rfl, ⟨u, k1, hu⟩, fr⟩) (fun z => absurd z (by omega))
  · intro k u fr k1 hu
    have hgi := hg i hi
    refine xgoal [(3, [0, 1, 2, 3, 4])] 100 ok_Mo_multiplies ?_
    refine xci (sp_Mo_size (b.fr fr (by omega))) ?_
    refine pk_le n i (fun z => absurd z (by omega)) (fun _ => ?_)
    refine xal (xat_fr p2 fr (by omega)) rfl (show i < 7 by omega) (by decide) ?_
    refine xal (xat_fr p1 fr (by omega)) (q2 i hi) (show g i < 7 by omega) (by decide) ?_
    refine xal k1 rfl (show i < 7 by omega) (by decide) ?_
    have ih := ih (xset k c3 (xia 7 (upd u i (u1 (g i))))) _ (frm_set fr (by omega) (by omega)) (xat_sf k1.1) (fun j hj => by
      unfold upd
      by_cases e : j = i
      · rw [if_pos e, e]; exact q1 _ hgi
      · rw [if_neg e]; exact hu j (by omega))
    rw [← nI_1 i] at ih
    exact ih
theorem sp_Mo_identity {h : xHp} {B n c : Nat} {F : Nat → Int32} (b : bM h B n F) (h3 : shRw h c) : SpecR g_Mo_identity [.ref B, .ref c] h (fun v h' => v = none ∧ isRw h' c 7 (fun i => i) ∧ frm h h' c (c + 1)) := by
  obtain ⟨fs, hrc⟩ := bM_rc b
  obtain ⟨u3, p3⟩ := h3
  refine SpecR.of (by decide +kernel) (Nat.le_of_ble_eq_true rfl) (fun c hc => by cases hc; exact ⟨_, _, _, rfl, hrc⟩) (fun v h' z => ⟨z.1, z.2.2.1, z.2.2.2.1⟩) (fun Q hQ => ?_)
  refine xgoal [(2, [1, 2])] 100 ok_Mo_identity ?_
  refine up_loop (P := fun i => ∀ (k : xHp) (u : Nat → Int32), frm h k c (c + 1) → xat k c (xia 7 u) → (∀ j, j < i → u j = nI j) → xAt (h.1, h.2.1) g_Mo_identity Q 2 [(1, .ref c), (2, .int (nI i))] [] k) 7 ?_ (fun i hi ih => ?_) 0 (Nat.zero_le _) h u3 frm_rf p3 (fun j hj => absurd hj (Nat.not_lt_zero j))
  · intro k u fr k1 hu
    refine xgoal [(2, [1, 2])] 100 ok_Mo_identity ?_
    exact pk_le 7 7 (fun _ => hQ _ _ ⟨rfl, ⟨u, k1, hu⟩, fr⟩) (fun z => absurd z (by omega))
  · intro k u fr k1 hu
    refine xgoal [(2, [1, 2])] 100 ok_Mo_identity ?_
    refine pk_le 7 i (fun z => absurd z (by omega)) (fun _ => ?_)
    refine xal k1 rfl (show i < 7 by omega) (by decide) ?_
    have ih := ih (xset k c (xia 7 (upd u i (nI i)))) _ (frm_set fr (by omega) (by omega)) (xat_sf k1.1) (fun j hj => by
      unfold upd
      by_cases e : j = i
      · rw [if_pos e, e]
      · rw [if_neg e]; exact hu j (by omega))
    rw [← nI_1 i] at ih
    exact ih
theorem sp_Mo_cycleOf {h : xHp} {B n c i : Nat} {f : Nat → Nat} {F : Nat → Int32} (b : bM h B n F) (hn : n ≤ 7) (hc : isRw h c n f) (hf : PM n f) (hi : i < n) : Spec g_Mo_cycleOf [.ref B, .ref c, .int (nI i)] h (some (.int (nI (cyl n f i)))) h := by
  obtain ⟨fs, hr⟩ := bM_rc b
  obtain ⟨g, g1, g2⟩ := hc
  obtain ⟨c1, c2, c3, c4⟩ := cyl_spec hf hi
  refine Spec.of (by decide +kernel) (Nat.le_of_ble_eq_true rfl) ⟨_, rfl⟩ rfl rfl (fun c hc => by cases hc; exact ⟨_, _, _, rfl, hr⟩) (fun Q hQ => ?_)
  refine xgoal [(7, [1, 2, 3, 4])] 100 ok_Mo_cycleOf ?_
  refine xal g1 rfl (show i < 7 by omega) (by decide) ?_
  have key := up_loop (P := fun m => 1 ≤ m → xAt (h.1, h.2.1) g_Mo_cycleOf Q 7 [(1, .ref c), (2, .int (nI i)), (3, .int (nI m)), (4, .int (nI (itr f m i)))] [] h) (cyl n f i) ?_ (fun m hm ih => ?_) 1 (by omega) (Nat.le_refl _)
  · rw [g2 i hi]
    exact key
  · intro _
    rw [c3]
    refine xgoal [(7, [1, 2, 3, 4])] 100 ok_Mo_cycleOf ?_
    exact pk_eq i i (fun _ => hQ) (fun z => absurd rfl z)
  · intro hm1
    have hlt := itr_lt hf.1 m i hi
    refine xgoal [(7, [1, 2, 3, 4])] 100 ok_Mo_cycleOf ?_
    refine pk_eq (itr f m i) i (fun z => absurd z (c4 m hm1 hm)) (fun _ => ?_)
    refine xal g1 rfl (show itr f m i < 7 by omega) (by decide) ?_
    have ih := ih (by omega)
    rw [show nI (itr f (m + 1) i) = g (itr f m i) from (g2 _ hlt).symm, ← nI_1 m] at ih
    exact ih
theorem sp_Mo_isFirst {h : xHp} {B n c i : Nat} {f : Nat → Nat} {F : Nat → Int32} (b : bM h B n F) (hn : n ≤ 7) (hc : isRw h c n f) (hf : PM n f) (hi : i < n) : Spec g_Mo_isFirst [.ref B, .ref c, .int (nI i)] h (some (.int (nI (if sm n f i = true then 1 else 0)))) h := by
  obtain ⟨fs, hr⟩ := bM_rc b
  obtain ⟨g, g1, g2⟩ := hc
  obtain ⟨c1, c2, c3, c4⟩ := cyl_spec hf hi
  refine Spec.of (by decide +kernel) (Nat.le_of_ble_eq_true rfl) ⟨_, rfl⟩ rfl rfl (fun c hc => by cases hc; exact ⟨_, _, _, rfl, hr⟩) (fun Q hQ => ?_)
  refine xgoal [(7, [1, 2, 3, 4])] 100 ok_Mo_isFirst ?_
  refine xal g1 rfl (show i < 7 by omega) (by decide) ?_
  have key := up_loop (P := fun m => 1 ≤ m → xAt (h.1, h.2.1) g_Mo_isFirst Q 7 [(1, .ref c), (2, .int (nI i)), (3, .int (nI (if smA f i (m - 1) = true then 1 else 0))), (4, .int (nI (itr f m i)))] [] h) (cyl n f i) ?_ (fun m hm ih => ?_) 1 (by omega) (Nat.le_refl _)
  · rw [g2 i hi]
    exact key
  · intro _
    rw [c3]
    refine xgoal [(7, [1, 2, 3, 4])] 100 ok_Mo_isFirst ?_
    refine pk_eq i i (fun _ => ⟨?_, hQ⟩) (fun z => absurd rfl z)
    split
    · exact Or.inr rfl
    · exact Or.inl rfl
  · intro hm1
    have hlt := itr_lt hf.1 m i hi
    have ih := ih (by omega)
    have es : smA f i (m + 1 - 1) = (smA f i (m - 1) && decide (i < itr f m i)) := by
      rw [show m + 1 - 1 = (m - 1) + 1 by omega]
      conv => lhs; unfold smA
      rw [show m - 1 + 1 = m by omega]
    rw [show nI (itr f (m + 1) i) = g (itr f m i) from (g2 _ hlt).symm, es] at ih
    refine xgoal [(7, [1, 2, 3, 4])] 100 ok_Mo_isFirst ?_
    refine pk_eq (itr f m i) i (fun z => absurd z (c4 m hm1 hm)) (fun _ => ?_)
    by_cases cs : smA f i (m - 1) = true
    · refine pk_eq 1 0 (fun z => absurd z (by omega)) (fun _ => ?_) (by rw [if_pos cs]) rfl
      rw [cs, Bool.true_and] at ih
      refine pk_le (itr f m i) i (fun z => ?_) (fun z => ?_)
      · rw [if_neg (by simpa using z)] at ih
        exact xal g1 rfl (show itr f m i < 7 by omega) (by decide) ih
      · rw [if_pos (by simpa using z)] at ih
        exact xal g1 rfl (show itr f m i < 7 by omega) (by decide) ih
    · refine pk_eq 0 0 (fun _ => ?_) (fun z => absurd rfl z) (by rw [if_neg cs]) rfl
      rw [if_neg (by simp [cs])] at ih
      exact xal g1 rfl (show itr f m i < 7 by omega) (by decide) ih
theorem sp_Mo_orderOf {h : xHp} {B n c : Nat} {f : Nat → Nat} {F : Nat → Int32} (b : bM h B n F) (hn : n ≤ 7) (hc : isRw h c n f) (hf : PM n f) : Spec g_Mo_orderOf [.ref B, .ref c] h (some (.int (nI (ord n f)))) h := by
  obtain ⟨fs, hr⟩ := bM_rc b
  obtain ⟨o1, o2⟩ := ord_le n f
  have hb : ∀ m, idb n f m = true ↔ ∀ i, i < n → m % cyl n f i = 0 := fun m => idb_iff hf
  refine Spec.of (by decide +kernel) (Nat.le_of_ble_eq_true rfl) ⟨_, rfl⟩ rfl rfl (fun c hc => by cases hc; exact ⟨_, _, _, rfl, hr⟩) (fun Q hQ => ?_)
  refine xgoal [(4, [0, 1, 2, 3]), (13, [0, 1, 2, 3, 4])] 100 ok_Mo_orderOf ?_
  have done : xAt (h.1, h.2.1) g_Mo_orderOf Q 4 [(0, .ref B), (1, .ref c), (2, .int (nI (ord n f))), (3, .int (nI 1))] [] h := by
    refine xgoal [(13, [0, 1, 2, 3, 4])] 100 ok_Mo_orderOf ?_
    exact pk_eq 1 0 (fun z => absurd z (by omega)) (fun _ => hQ)
  have inner : ∀ m, 1 ≤ m → m ≤ 12 → (¬ (∀ i, i < n → m % cyl n f i = 0) → xAt (h.1, h.2.1) g_Mo_orderOf Q 4 [(0, .ref B), (1, .ref c), (2, .int (nI (m + 1))), (3, .int (nI 0))] [] h) → ((∀ i, i < n → m % cyl n f i = 0) → xAt (h.1, h.2.1) g_Mo_orderOf Q 4 [(0, .ref B), (1, .ref c), (2, .int (nI m)), (3, .int (nI 1))] [] h) → xAt (h.1, h.2.1) g_Mo_orderOf Q 13 [(0, .ref B), (1, .ref c), (2, .int (nI m)), (3, .int (nI 1)), (4, .int (nI 0))] [] h := by
    intro m hm1 hm12 K0 K1
    have key := up_loop (P := fun i => xAt (h.1, h.2.1) g_Mo_orderOf Q 13 [(0, .ref B), (1, .ref c), (2, .int (nI m)), (3, .int (nI (if (∀ j, j < i → m % cyl n f j = 0) then 1 else 0))), (4, .int (nI i))] [] h) n ?_ (fun i hi ih => ?_) 0 (Nat.zero_le _)
    · rw [if_pos (fun j hj => absurd hj (Nat.not_lt_zero j))] at key
      exact key
    · refine xgoal [(4, [0, 1, 2, 3]), (13, [0, 1, 2, 3, 4])] 100 ok_Mo_orderOf ?_
      refine xci (sp_Mo_size b) ?_
      refine pk_le n n (fun _ => ?_) (fun z => absurd z (by omega))
      by_cases c0 : ∀ j, j < n → m % cyl n f j = 0
      · rw [if_pos c0]
        refine pk_eq 1 0 (fun z => absurd z (by omega)) (fun _ => ?_)
        have K1 := K1 c0
        rw [← n_add0 m] at K1
        exact K1
      · rw [if_neg c0]
        refine pk_eq 0 0 (fun _ => ?_) (fun z => absurd rfl z)
        have K0 := K0 c0
        rw [← nI_1 m] at K0
        exact K0
    · have cc := cyl_spec hf hi
      refine xgoal [(4, [0, 1, 2, 3]), (13, [0, 1, 2, 3, 4])] 100 ok_Mo_orderOf ?_
      refine xci (sp_Mo_size b) ?_
      refine pk_le n i (fun z => absurd z (by omega)) (fun _ => ?_)
      by_cases c0 : ∀ j, j < i → m % cyl n f j = 0
      · refine pk_eq 1 0 (fun z => absurd z (by omega)) (fun _ => ?_) (by rw [if_pos c0]) rfl
        refine xci (sp_Mo_cycleOf b hn hc hf hi) ?_
        refine And.intro (nI_ne0 (by omega) (by omega)) ?_
        have er : nI m - nI m / nI (cyl n f i) * nI (cyl n f i) = nI (m % cyl n f i) := pk_rem (by omega) (by omega) (by omega)
        have hml : m % cyl n f i < cyl n f i := Nat.mod_lt _ (by omega)
        refine pk_eq (m % cyl n f i) 0 (fun z => ?_) (fun z => ?_) er rfl
        · rw [if_pos (fun j hj => by
            by_cases e : j = i
            · rw [e]; exact z
            · exact c0 j (by omega)), ← nI_1 i] at ih
          exact ih
        · rw [if_neg (fun y => z (y i (by omega))), ← nI_1 i] at ih
          exact ih
      · refine pk_eq 0 0 (fun _ => ?_) (fun z => absurd rfl z) (by rw [if_neg c0]) rfl
        rw [if_neg (fun y => c0 (fun j hj => y j (by omega))), ← nI_1 i] at ih
        exact ih
  refine up_loop (P := fun m => 1 ≤ m → xAt (h.1, h.2.1) g_Mo_orderOf Q 4 [(0, .ref B), (1, .ref c), (2, .int (nI m)), (3, .int (nI 0))] [] h) (ord n f) (fun _ => ?_) (fun m hm ih => ?_) 1 (by omega) (Nat.le_refl _)
  · refine xgoal [(13, [0, 1, 2, 3, 4])] 100 ok_Mo_orderOf ?_
    refine pk_eq 0 0 (fun _ => ?_) (fun z => absurd rfl z)
    exact inner (ord n f) o1 o2 (fun z => absurd ((hb _).mp (ord_ok hn hf)) z) (fun _ => done)
  · intro hm1
    refine xgoal [(13, [0, 1, 2, 3, 4])] 100 ok_Mo_orderOf ?_
    refine pk_eq 0 0 (fun _ => ?_) (fun z => absurd rfl z)
    exact inner m hm1 (by omega) (fun _ => ih (by omega)) (fun z => by
      have := ord_no hm1 hm
      rw [(hb m).mpr z] at this
      cases this)
theorem sp_Mo_raises {h : xHp} {B n c1 c3 k : Nat} {f : Nat → Nat} {F : Nat → Int32} (b : bM h B n F) (hn : n ≤ 7) (hk : k < 2147483648) (h1 : isRw h c1 n f) (hf : ∀ i, i < n → f i < n) (h3 : shRw h c3) (hd : B + 2 ≤ c3) (d1 : c1 ≠ c3) : SpecR g_Mo_raises [.ref B, .ref c1, .int (nI k), .ref c3] h (fun v h' => v = none ∧ isRw h' c3 n (itr f k) ∧ frm h h' c3 (c3 + 1)) := by
  obtain ⟨fs, hrc⟩ := bM_rc b
  obtain ⟨u1, p1, q1⟩ := h1
  obtain ⟨u3, p3⟩ := h3
  refine SpecR.of (by decide +kernel) (Nat.le_of_ble_eq_true rfl) (fun c hc => by cases hc; exact ⟨_, _, _, rfl, hrc⟩) (fun v h' z => ⟨z.1, z.2.2.1, z.2.2.2.1⟩) (fun Q hQ => ?_)
  refine xgoal [(3, [0, 1, 2, 3, 4]), (19, [0, 1, 2, 3, 4, 5, 6])] 100 ok_Mo_raises ?_
  refine up_loop (P := fun i => ∀ (kh : xHp) (u : Nat → Int32), frm h kh c3 (c3 + 1) → xat kh c3 (xia 7 u) → (∀ j, j < i → u j = nI (itr f k j)) → xAt (h.1, h.2.1) g_Mo_raises Q 3 [(0, .ref B), (1, .ref c1), (2, .int (nI k)), (3, .ref c3), (4, .int (nI i))] [] kh) n ?_ (fun i hi ih => ?_) 0 (Nat.zero_le _) h u3 frm_rf p3 (fun j hj => absurd hj (Nat.not_lt_zero j))
  · intro kh u fr k1 hu
    refine xgoal [(3, [0, 1, 2, 3, 4]), (19, [0, 1, 2, 3, 4, 5, 6])] 100 ok_Mo_raises ?_
    refine xci (sp_Mo_size (b.fr fr (by omega))) ?_
    exact pk_le n n (fun _ => hQ _ _ ⟨rfl, ⟨u, k1, hu⟩, fr⟩) (fun z => absurd z (by omega))
  · intro kh u fr k1 hu
    refine xgoal [(3, [0, 1, 2, 3, 4]), (19, [0, 1, 2, 3, 4, 5, 6])] 100 ok_Mo_raises ?_
    refine xci (sp_Mo_size (b.fr fr (by omega))) ?_
    refine pk_le n i (fun z => absurd z (by omega)) (fun _ => ?_)
    refine up_loop (P := fun m => xAt (h.1, h.2.1) g_Mo_raises Q 19 [(0, .ref B), (1, .ref c1), (2, .int (nI k)), (3, .ref c3), (4, .int (nI i)), (5, .int (nI (itr f m i))), (6, .int (nI m))] [] kh) k ?_ (fun m hm ihm => ?_) 0 (Nat.zero_le _)
    · refine xgoal [(3, [0, 1, 2, 3, 4]), (19, [0, 1, 2, 3, 4, 5, 6])] 100 ok_Mo_raises ?_
      refine pk_le k k (fun _ => ?_) (fun z => absurd z (by omega))
      refine xal k1 rfl (show i < 7 by omega) (by decide) ?_
      have ih := ih (xset kh c3 (xia 7 (upd u i (nI (itr f k i))))) _ (frm_set fr (by omega) (by omega)) (xat_sf k1.1) (fun j hj => by
        unfold upd
        by_cases e : j = i
        · rw [if_pos e, e]
        · rw [if_neg e]; exact hu j (by omega))
      rw [← nI_1 i] at ih
      exact ih
    · have hlt := itr_lt hf m i hi
      refine xgoal [(3, [0, 1, 2, 3, 4]), (19, [0, 1, 2, 3, 4, 5, 6])] 100 ok_Mo_raises ?_
      refine pk_le k m (fun z => absurd z (by omega)) (fun _ => ?_)
      refine xal (xat_fr p1 fr (by omega)) rfl (show itr f m i < 7 by omega) (by decide) ?_
      rw [show nI (itr f (m + 1) i) = u1 (itr f m i) from (q1 _ hlt).symm, ← nI_1 m] at ihm
      exact ihm
theorem sp_Mo_isSame {h : xHp} {B n c1 c2 : Nat} {f g : Nat → Nat} {F : Nat → Int32} (b : bM h B n F) (hn : n ≤ 7) (h1 : isRw h c1 n f) (h2 : isRw h c2 n g) (hf : ∀ i, i < n → f i < 8) (hg : ∀ i, i < n → g i < 8) : Spec g_Mo_isSame [.ref B, .ref c1, .ref c2] h (some (.int (nI (if (∀ i, i < n → f i = g i) then 1 else 0)))) h := by
  obtain ⟨fs, hr⟩ := bM_rc b
  obtain ⟨u1, p1, q1⟩ := h1
  obtain ⟨u2, p2, q2⟩ := h2
  refine Spec.of (by decide +kernel) (Nat.le_of_ble_eq_true rfl) ⟨_, rfl⟩ rfl rfl (fun c hc => by cases hc; exact ⟨_, _, _, rfl, hr⟩) (fun Q hQ => ?_)
  refine xgoal [(5, [0, 1, 2, 3, 4])] 100 ok_Mo_isSame ?_
  have key := up_loop (P := fun i => xAt (h.1, h.2.1) g_Mo_isSame Q 5 [(0, .ref B), (1, .ref c1), (2, .ref c2), (3, .int (nI (if (∀ j, j < i → f j = g j) then 1 else 0))), (4, .int (nI i))] [] h) n ?_ (fun i hi ih => ?_) 0 (Nat.zero_le _)
  · rw [if_pos (fun j hj => absurd hj (Nat.not_lt_zero j))] at key
    exact key
  · refine xgoal [(5, [0, 1, 2, 3, 4])] 100 ok_Mo_isSame ?_
    refine xci (sp_Mo_size b) ?_
    refine pk_le n n (fun _ => ⟨?_, hQ⟩) (fun z => absurd z (by omega))
    split
    · exact Or.inr rfl
    · exact Or.inl rfl
  · have f1 := hf i hi
    have f2 := hg i hi
    refine xgoal [(5, [0, 1, 2, 3, 4])] 100 ok_Mo_isSame ?_
    refine xci (sp_Mo_size b) ?_
    refine pk_le n i (fun z => absurd z (by omega)) (fun _ => ?_)
    by_cases c0 : ∀ j, j < i → f j = g j
    · refine pk_eq 1 0 (fun z => absurd z (by omega)) (fun _ => ?_) (by rw [if_pos c0]) rfl
      refine xal p1 rfl (show i < 7 by omega) (by decide) ?_
      refine xal p2 rfl (show i < 7 by omega) (by decide) ?_
      refine pk_eq (f i) (g i) (fun z => ?_) (fun z => ?_) (q1 i hi) (q2 i hi)
      · rw [if_pos (fun j hj => by
          by_cases e : j = i
          · rw [e]; exact z
          · exact c0 j (by omega)), ← nI_1 i] at ih
        exact ih
      · rw [if_neg (fun y => z (y i (by omega))), ← nI_1 i] at ih
        exact ih
    · refine pk_eq 0 0 (fun _ => ?_) (fun z => absurd rfl z) (by rw [if_neg c0]) rfl
      rw [if_neg (fun y => c0 (fun j hj => y j (by omega))), ← nI_1 i] at ih
      exact ih
