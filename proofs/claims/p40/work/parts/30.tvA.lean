/-! THE CLASS'S CALLS, first half -/
theorem regs {h : xHp} {A : Nat} {ω : Wv} (w : isT h A ω) : ∃ f, xat h (A + 1 + 1) (xia 6 f) ∧ ∀ r, r < 6 → f r = R (nrm (wN ω) (wG ω r)) := w.2.1.2.1
theorem sp_TV_setWords {h : xHp} {A : Nat} {ω : Wv} {x : Int32} (w : isT h A ω) (k : wok ω) : SpecR g_TV_setWords [.ref A, .int x] h (pT h A (stSetWords ω x)) := by
  refine SpecR.of (by decide +kernel) (Nat.le_of_ble_eq_true rfl) (fun c hc => by cases hc; exact ⟨_, _, _, rfl, w.1⟩) (fun v h' z => ⟨⟨_, z.1⟩, z.2.2.1, z.2.2.2.1⟩) (fun Q hQ => ?_)
  generalize hO : stSetWords ω x = o at hQ
  unfold stSetWords at hO
  have bad : ∀ c, (c, ω) = o → Q (some (.int c)) h := fun c e => by subst e; exact hQ _ _ ⟨rfl, w, frm_rf⟩
  have hn1 : 2 ≤ wN ω := k.1.1
  have hn : wN ω ≤ 7 := k.1.2.1
  have hS : ∀ i, i < wN ω → sS ω.1 i < 4 := k.1.2.2.1
  have hG : ∀ r, r < 6 → PM (wN ω) (wG ω r) := k.1.2.2.2.1
  have hP : pok (wN ω) (wP ω) := k.1.2.2.2.2
  refine xgoal [] 100 ok_TV_setWords ?_
  have key : ∀ m, ix 8 x = some m → x = nI m → m < 8 → ((x < nI 2 → Q (some (.int (-1))) h) ∧ (¬ x < nI 2 → (x ≤ nI 7))) := fun m hm e hlt => by
    subst e
    rw [gdS hm] at hO
    refine ⟨fun z => ?_, fun z => ?_⟩
    · rw [nI_ltI (by omega) (by omega)] at z
      rw [if_pos z] at hO
      exact bad _ hO
    · rw [Int32.le_iff_toInt_le, nI_toInt (by omega), nI_toInt (by omega)]; omega
  cases hm : ix 8 x with
  | none =>
    rw [gdN hm] at hO
    refine And.intro (fun _ => bad _ hO) (fun z => And.intro (fun z2 => ?_) (fun _ => bad _ hO))
    exfalso
    unfold ix at hm
    rw [Int32.lt_iff_toInt_lt, nI_toInt (by omega)] at z
    rw [Int32.le_iff_toInt_le, nI_toInt (by omega)] at z2
    rw [if_pos (by omega)] at hm
    cases hm
  | some m =>
    obtain ⟨e, hlt⟩ := ix_some hm
    have key := key m hm e hlt
    refine And.intro key.1 (fun z => And.intro (fun z2 => ?_) (fun z2 => absurd (key.2 z) z2))
    subst e
    rw [nI_ltI (by omega) (by omega)] at z
    rw [gdS hm, if_neg z] at hO
    refine xgf w.1 rfl ?_
    refine xgf w.1 rfl ?_
    refine xrcd w k (fun h1 w1 fr1 => ?_)
    refine xgf w1.1 rfl ?_
    refine xgf w1.2.1.1 rfl ?_
    refine xgf w1.1 rfl ?_
    refine xrv (sp_Sta_startWith (n := m) (by omega) w1.2.1.sh) ?_
    rintro h2 ⟨-, hs, fr2⟩
    subst hO
    exact hQ _ _ ⟨rfl, isT_sta w1 hs fr2, frm_tr fr1 fr2 (by omega) (by omega)⟩
theorem sp_TV_make {h : xHp} {A : Nat} {ω : Wv} {r kind a : Int32} (w : isT h A ω) (k : wok ω) : SpecR g_TV_make [.ref A, .int r, .int kind, .int a] h (pT h A (stMake ω r kind a)) := by
  refine SpecR.of (by decide +kernel) (Nat.le_of_ble_eq_true rfl) (fun c hc => by cases hc; exact ⟨_, _, _, rfl, w.1⟩) (fun v h' z => ⟨⟨_, z.1⟩, z.2.2.1, z.2.2.2.1⟩) (fun Q hQ => ?_)
  generalize hO : stMake ω r kind a = o at hQ
  unfold stMake at hO
  have bad : ∀ c, (c, ω) = o → Q (some (.int c)) h := fun c e => by subst e; exact hQ _ _ ⟨rfl, w, frm_rf⟩
  have hn1 : 2 ≤ wN ω := k.1.1
  have hn : wN ω ≤ 7 := k.1.2.1
  have hS : ∀ i, i < wN ω → sS ω.1 i < 4 := k.1.2.2.1
  have hG : ∀ r, r < 6 → PM (wN ω) (wG ω r) := k.1.2.2.2.1
  have hP : pok (wN ω) (wP ω) := k.1.2.2.2.2
  refine xgoal [] 100 ok_TV_make ?_
  refine xci (sp_TV_isRegister r h) ?_
  refine gdX (fun z => ?_) (fun i hi e hlt => ?_)
  · rw [gdN z] at hO; exact bad _ hO
  subst e
  rw [gdS hi] at hO
  refine gdY (m := 6) (by omega) (fun z => ?_) (fun z => ?_) (fun x hx e hx6 => ?_)
  · rw [gdN z] at hO; exact bad _ hO
  · rw [gdN z] at hO; exact bad _ hO
  subst e
  rw [gdS hx] at hO
  refine xci (sp_TV_isLine a w hn) ?_
  refine gdX (fun z => ?_) (fun y hy e hyn => ?_)
  · rw [gdN z] at hO; exact bad _ hO
  subst e
  rw [gdS hy] at hO
  refine xgf w.1 rfl ?_
  refine xgf w.2.1.1 rfl ?_
  refine xci (sp_Perm_ofKind hn hyn hx6 h) ?_
  refine xri (sp_TV_store w k hlt (kd_PM hn hyn hx6)) ?_
  rintro v h2 ⟨e, w2, fr2⟩
  cases e
  subst hO
  exact hQ _ _ ⟨rfl, w2, fr2⟩
theorem sp_TV_product {h : xHp} {A : Nat} {ω : Wv} {a b c : Int32} (w : isT h A ω) (k : wok ω) : SpecR g_TV_product [.ref A, .int a, .int b, .int c] h (pT h A (stProduct ω a b c)) := by
  refine SpecR.of (by decide +kernel) (Nat.le_of_ble_eq_true rfl) (fun c hc => by cases hc; exact ⟨_, _, _, rfl, w.1⟩) (fun v h' z => ⟨⟨_, z.1⟩, z.2.2.1, z.2.2.2.1⟩) (fun Q hQ => ?_)
  generalize hO : stProduct ω a b c = o at hQ
  unfold stProduct at hO
  have bad : ∀ c, (c, ω) = o → Q (some (.int c)) h := fun c e => by subst e; exact hQ _ _ ⟨rfl, w, frm_rf⟩
  have hn1 : 2 ≤ wN ω := k.1.1
  have hn : wN ω ≤ 7 := k.1.2.1
  have hS : ∀ i, i < wN ω → sS ω.1 i < 4 := k.1.2.2.1
  have hG : ∀ r, r < 6 → PM (wN ω) (wG ω r) := k.1.2.2.2.1
  have hP : pok (wN ω) (wP ω) := k.1.2.2.2.2
  refine xgoal [] 100 ok_TV_product ?_
  obtain ⟨g, g1, g2⟩ := regs w
  refine xci (sp_TV_isRegister a h) ?_
  refine gdX (fun z => ?_) (fun i hi e hlt => ?_)
  · rw [gdN z] at hO; exact bad _ hO
  subst e
  rw [gdS hi] at hO
  refine xci (sp_TV_isRegister b h) ?_
  refine gdX (fun z => ?_) (fun x hx e hx6 => ?_)
  · rw [gdN z] at hO; exact bad _ hO
  subst e
  rw [gdS hx] at hO
  refine xci (sp_TV_isRegister c h) ?_
  refine gdX (fun z => ?_) (fun y hy e hy6 => ?_)
  · rw [gdN z] at hO; exact bad _ hO
  subst e
  rw [gdS hy] at hO
  refine xgf w.1 rfl ?_
  refine xgf w.2.1.1 rfl ?_
  refine xal g1 rfl hlt (by decide) ?_
  refine xgf w.1 rfl ?_
  refine xgf w.2.1.1 rfl ?_
  refine xal g1 rfl hx6 (by decide) ?_
  refine xgf w.1 rfl ?_
  refine xgf w.2.1.1 rfl ?_
  have sp := sp_Row_turned (f := wG ω i) (g := wG ω x) hn (fun j hj => by have := (hG i hlt).1 j hj; omega) (hG x hx6).1 h
  rw [← g2 i hlt, ← g2 x hx6] at sp
  refine xci sp ?_
  refine xri (sp_TV_store (f := fun j => wG ω i (wG ω x j)) w k hy6 (PM_comp (hG i hlt) (hG x hx6))) ?_
  rintro v h2 ⟨e, w2, fr2⟩
  cases e
  subst hO
  exact hQ _ _ ⟨rfl, w2, fr2⟩
theorem n_abs {x : Int32} (h0 : x.toInt < 0) (h : -1000000 ≤ x.toInt) : 0 - x = nI (-x.toInt).toNat := by
  apply Int32.toInt_inj.mp
  rw [nI_toInt (by omega), Int32.toInt_sub]
  rw [show (0 : Int32).toInt = 0 by decide]
  unfold Int.bmod
  dsimp only
  split <;> omega
theorem sp_TV_power {h : xHp} {A : Nat} {ω : Wv} {a b c : Int32} (w : isT h A ω) (k : wok ω) : SpecR g_TV_power [.ref A, .int a, .int b, .int c] h (pT h A (stPower ω a b c)) := by
  refine SpecR.of (by decide +kernel) (Nat.le_of_ble_eq_true rfl) (fun c hc => by cases hc; exact ⟨_, _, _, rfl, w.1⟩) (fun v h' z => ⟨⟨_, z.1⟩, z.2.2.1, z.2.2.2.1⟩) (fun Q hQ => ?_)
  generalize hO : stPower ω a b c = o at hQ
  unfold stPower at hO
  have bad : ∀ c, (c, ω) = o → Q (some (.int c)) h := fun c e => by subst e; exact hQ _ _ ⟨rfl, w, frm_rf⟩
  have hn1 : 2 ≤ wN ω := k.1.1
  have hn : wN ω ≤ 7 := k.1.2.1
  have hS : ∀ i, i < wN ω → sS ω.1 i < 4 := k.1.2.2.1
  have hG : ∀ r, r < 6 → PM (wN ω) (wG ω r) := k.1.2.2.2.1
  have hP : pok (wN ω) (wP ω) := k.1.2.2.2.2
  refine xgoal [] 100 ok_TV_power ?_
  obtain ⟨g, g1, g2⟩ := regs w
  refine xci (sp_TV_isRegister a h) ?_
  refine gdX (fun z => ?_) (fun i hi e hlt => ?_)
  · rw [gdN z] at hO; exact bad _ hO
  subst e
  rw [gdS hi] at hO
  refine And.intro (fun z => ?_) (fun z => And.intro (fun z2 => ?_) (fun z2 => ?_))
  · rw [Int32.lt_iff_toInt_lt, show (-1000000 : Int32).toInt = -1000000 by decide] at z
    rw [if_pos (Or.inl z)] at hO; exact bad _ hO
  · rw [Int32.lt_iff_toInt_lt, nI_toInt (by omega)] at z2
    have z2 : 1000000 < b.toInt := z2
    rw [if_pos (Or.inr z2)] at hO; exact bad _ hO
  rw [Int32.lt_iff_toInt_lt, show (-1000000 : Int32).toInt = -1000000 by decide] at z
  rw [Int32.lt_iff_toInt_lt, nI_toInt (by omega)] at z2
  have z2 : ¬ 1000000 < b.toInt := z2
  rw [if_neg (fun y => y.elim z z2)] at hO
  refine xci (sp_TV_isRegister c h) ?_
  refine gdX (fun z => ?_) (fun y hy e hy6 => ?_)
  · rw [gdN z] at hO; exact bad _ hO
  subst e
  rw [gdS hy] at hO
  refine xgf w.1 rfl ?_
  refine xgf w.2.1.1 rfl ?_
  refine xal g1 rfl hlt (by decide) ?_
  unfold pwr at hO
  refine And.intro (fun c0 => ?_) (fun c0 => ?_)
  · rw [Int32.le_iff_toInt_le, nI_toInt (by omega)] at c0
    rw [if_neg (by omega)] at hO
    refine xgf w.1 rfl ?_
    refine xgf w.2.1.1 rfl ?_
    have sp := sp_Perm_repeated (f := wG ω i) (k := b.toInt.toNat) hn (hG i hlt) (by omega) h
    rw [← g2 i hlt, ← n_of c0, show b = if 0 ≤ b then b else 0 - b by rw [if_pos (by rw [Int32.le_iff_toInt_le, show (0 : Int32).toInt = 0 by decide]; exact c0)]] at sp
    rw [show (if 0 ≤ b then b else 0 - b).toInt.toNat = b.toInt.toNat by rw [if_pos (by rw [Int32.le_iff_toInt_le, show (0 : Int32).toInt = 0 by decide]; exact c0)]] at sp
    refine xci sp ?_
    refine xri (sp_TV_store w k hy6 (itr_PM (hG i hlt) _)) ?_
    rintro v h2 ⟨e, w2, fr2⟩
    cases e
    subst hO
    exact hQ _ _ ⟨rfl, w2, fr2⟩
  · rw [Int32.le_iff_toInt_le, nI_toInt (by omega)] at c0
    have c0 : b.toInt < 0 := by omega
    rw [if_pos c0] at hO
    refine xgf w.1 rfl ?_
    refine xgf w.2.1.1 rfl ?_
    have sp := sp_Perm_inverse hn (hG i hlt) h
    rw [← g2 i hlt] at sp
    refine xci sp ?_
    refine xgf w.1 rfl ?_
    refine xgf w.2.1.1 rfl ?_
    have sp := sp_Perm_repeated (f := inv (wN ω) (wG ω i)) (k := (-b.toInt).toNat) hn (inv_PM (hG i hlt)) (by omega) h
    rw [← n_abs c0 (by omega), show 0 - b = if 0 ≤ b then b else 0 - b by rw [if_neg (by rw [Int32.le_iff_toInt_le, show (0 : Int32).toInt = 0 by decide]; omega)]] at sp
    refine xci sp ?_
    refine xri (sp_TV_store w k hy6 (itr_PM (inv_PM (hG i hlt)) _)) ?_
    rintro v h2 ⟨e, w2, fr2⟩
    cases e
    subst hO
    exact hQ _ _ ⟨rfl, w2, fr2⟩
theorem sp_TV_unrank {h : xHp} {A : Nat} {ω : Wv} {r a : Int32} (w : isT h A ω) (k : wok ω) : SpecR g_TV_unrank [.ref A, .int r, .int a] h (pT h A (stUnrank ω r a)) := by
  refine SpecR.of (by decide +kernel) (Nat.le_of_ble_eq_true rfl) (fun c hc => by cases hc; exact ⟨_, _, _, rfl, w.1⟩) (fun v h' z => ⟨⟨_, z.1⟩, z.2.2.1, z.2.2.2.1⟩) (fun Q hQ => ?_)
  generalize hO : stUnrank ω r a = o at hQ
  unfold stUnrank at hO
  have bad : ∀ c, (c, ω) = o → Q (some (.int c)) h := fun c e => by subst e; exact hQ _ _ ⟨rfl, w, frm_rf⟩
  have hn1 : 2 ≤ wN ω := k.1.1
  have hn : wN ω ≤ 7 := k.1.2.1
  have hS : ∀ i, i < wN ω → sS ω.1 i < 4 := k.1.2.2.1
  have hG : ∀ r, r < 6 → PM (wN ω) (wG ω r) := k.1.2.2.2.1
  have hP : pok (wN ω) (wP ω) := k.1.2.2.2.2
  refine xgoal [] 100 ok_TV_unrank ?_
  have h5 := fct_le hn
  refine xci (sp_TV_isRegister r h) ?_
  refine gdX (fun z => ?_) (fun i hi e hlt => ?_)
  · rw [gdN z] at hO; exact bad _ hO
  subst e
  rw [gdS hi] at hO
  refine And.intro (fun z => ?_) (fun z => ?_)
  · rw [gdN (ix_neg z)] at hO; exact bad _ hO
  refine xgf w.1 rfl ?_
  refine xgf w.2.1.1 rfl ?_
  refine xci (sp_Perm_count hn1 hn h) ?_
  refine And.intro (fun z2 => ?_) (fun z2 => ?_)
  · obtain ⟨x, hx⟩ := ix_in2 (by omega) z z2
    obtain ⟨e, hxf⟩ := ix_some hx
    subst e
    rw [gdS hx] at hO
    refine xgf w.1 rfl ?_
    refine xgf w.2.1.1 rfl ?_
    refine xci (sp_Perm_numbered (by omega) hn (by omega) h) ?_
    refine xri (sp_TV_store w k hlt (unr_PM _ x)) ?_
    rintro v h2 ⟨-, w2, fr2⟩
    refine xgf w2.1 rfl ?_
    refine xgf w2.2.1.1 rfl ?_
    refine xci (sp_Perm_order hn (unr_PM _ x) h2) ?_
    subst hO
    exact hQ _ _ ⟨rfl, w2, fr2⟩
  · rw [gdN (ix_lt (by omega) z2)] at hO; exact bad _ hO
theorem sp_TV_root {h : xHp} {A : Nat} {ω : Wv} {a b c : Int32} (w : isT h A ω) (k : wok ω) : SpecR g_TV_root [.ref A, .int a, .int b, .int c] h (pT h A (stRoot ω a b c)) := by
  refine SpecR.of (by decide +kernel) (Nat.le_of_ble_eq_true rfl) (fun c hc => by cases hc; exact ⟨_, _, _, rfl, w.1⟩) (fun v h' z => ⟨⟨_, z.1⟩, z.2.2.1, z.2.2.2.1⟩) (fun Q hQ => ?_)
  generalize hO : stRoot ω a b c = o at hQ
  unfold stRoot at hO
  have bad : ∀ c, (c, ω) = o → Q (some (.int c)) h := fun c e => by subst e; exact hQ _ _ ⟨rfl, w, frm_rf⟩
  have hn1 : 2 ≤ wN ω := k.1.1
  have hn : wN ω ≤ 7 := k.1.2.1
  have hS : ∀ i, i < wN ω → sS ω.1 i < 4 := k.1.2.2.1
  have hG : ∀ r, r < 6 → PM (wN ω) (wG ω r) := k.1.2.2.2.1
  have hP : pok (wN ω) (wP ω) := k.1.2.2.2.2
  refine xgoal [] 100 ok_TV_root ?_
  obtain ⟨g, g1, g2⟩ := regs w
  have h5 := fct_le hn
  refine xci (sp_TV_isRegister a h) ?_
  refine gdX (fun z => ?_) (fun i hi e hlt => ?_)
  · rw [gdN z] at hO; exact bad _ hO
  subst e
  rw [gdS hi] at hO
  have hb : ∀ c, (gd (ix 13 b) ω fun k => if k < 1 then (-1, ω) else gd (ix 6 c) ω fun to => if rt (wN ω) (wG ω i) k < fct (wN ω) then sto ω to (unr (wN ω) (rt (wN ω) (wG ω i) k)) else (-9, rcd ω)) = o → (b < nI 1 ∨ nI 12 < b) → Q (some (.int (-1))) h := fun c hO z => by
    cases hx : ix 13 b with
    | none => rw [gdN hx] at hO; exact bad _ hO
    | some x =>
      obtain ⟨e, hx13⟩ := ix_some hx
      subst e
      rw [gdS hx] at hO
      rw [nI_ltI (by omega) (by omega), nI_ltI (by omega) (by omega)] at z
      rw [if_pos (by omega)] at hO
      exact bad _ hO
  refine And.intro (fun z => hb c hO (Or.inl z)) (fun z => And.intro (fun z2 => hb c hO (Or.inr z2)) (fun z2 => ?_))
  obtain ⟨x, hx⟩ : ∃ x, ix 13 b = some x := by
    unfold ix
    rw [Int32.lt_iff_toInt_lt, nI_toInt (by omega)] at z z2
    exact ⟨_, if_pos (by omega)⟩
  obtain ⟨e, hx13⟩ := ix_some hx
  subst e
  rw [nI_ltI (by omega) (by omega)] at z
  rw [gdS hx, if_neg z] at hO
  refine xci (sp_TV_isRegister c h) ?_
  refine gdX (fun z => ?_) (fun y hy e hy6 => ?_)
  · rw [gdN z] at hO; exact bad _ hO
  subst e
  rw [gdS hy] at hO
  refine xgf w.1 rfl ?_
  refine xgf w.2.1.1 rfl ?_
  refine xal g1 rfl hlt (by decide) ?_
  refine xgf w.1 rfl ?_
  refine xgf w.2.1.1 rfl ?_
  have sp := sp_Perm_firstRoot (f := wG ω i) (k := x) hn1 hn (hG i hlt) (by omega) h
  rw [← g2 i hlt] at sp
  refine xci sp ?_
  by_cases cr : rt (wN ω) (wG ω i) x < fct (wN ω)
  · rw [if_pos cr] at hO
    have hpm := unr_PM (wN ω) (rt (wN ω) (wG ω i) x)
    rw [if_pos cr]
    refine And.intro (fun z => absurd z (nI_m1 (by have := pak7 (nrm_b8 (n := wN ω) (f := unr (wN ω) (rt (wN ω) (wG ω i) x)) (fun j hj => by have := hpm.1 j hj; omega)); omega))) (fun _ => ?_)
    refine xri (sp_TV_store w k hy6 hpm) ?_
    rintro v h2 ⟨e, w2, fr2⟩
    cases e
    subst hO
    exact hQ _ _ ⟨rfl, w2, fr2⟩
  · rw [if_neg cr] at hO
    rw [if_neg cr]
    refine And.intro (fun _ => ?_) (fun z => absurd rfl z)
    refine xgf w.1 rfl ?_
    refine xgf w.1 rfl ?_
    refine xrcd w k (fun h1 w1 fr1 => ?_)
    subst hO
    exact hQ _ _ ⟨rfl, w1, fr1⟩
theorem sp_TV_turn {h : xHp} {A : Nat} {ω : Wv} {r a : Int32} (w : isT h A ω) (k : wok ω) : SpecR g_TV_turn [.ref A, .int r, .int a] h (pT h A (stTurn ω r a)) := by
  refine SpecR.of (by decide +kernel) (Nat.le_of_ble_eq_true rfl) (fun c hc => by cases hc; exact ⟨_, _, _, rfl, w.1⟩) (fun v h' z => ⟨⟨_, z.1⟩, z.2.2.1, z.2.2.2.1⟩) (fun Q hQ => ?_)
  generalize hO : stTurn ω r a = o at hQ
  unfold stTurn at hO
  have bad : ∀ c, (c, ω) = o → Q (some (.int c)) h := fun c e => by subst e; exact hQ _ _ ⟨rfl, w, frm_rf⟩
  have hn1 : 2 ≤ wN ω := k.1.1
  have hn : wN ω ≤ 7 := k.1.2.1
  have hS : ∀ i, i < wN ω → sS ω.1 i < 4 := k.1.2.2.1
  have hG : ∀ r, r < 6 → PM (wN ω) (wG ω r) := k.1.2.2.2.1
  have hP : pok (wN ω) (wP ω) := k.1.2.2.2.2
  refine xgoal [] 100 ok_TV_turn ?_
  obtain ⟨g, g1, g2⟩ := regs w
  refine xci (sp_TV_isRegister r h) ?_
  refine gdX (fun z => ?_) (fun i hi e hlt => ?_)
  · rw [gdN z] at hO; exact bad _ hO
  subst e
  rw [gdS hi] at hO
  refine gdZ (m := 7) (by omega) (fun z => ?_) (fun z => ?_) (fun x hx e hx7 => ?_)
  · rw [gdN z] at hO; exact bad _ hO
  · rw [gdN z] at hO; exact bad _ hO
  subst e
  rw [gdS hx] at hO
  refine xgf w.1 rfl ?_
  refine xgf w.2.1.1 rfl ?_
  refine xal g1 rfl hlt (by decide) ?_
  refine xgf w.1 rfl ?_
  refine xgf w.2.1.1 rfl ?_
  have sp := sp_Perm_property (f := wG ω i) hn (hG i hlt) hx7 h
  rw [← g2 i hlt] at sp
  refine xci sp ?_
  exact bad _ hO
theorem sp_TV_generated {h : xHp} {A : Nat} {ω : Wv} {a : Int32} (w : isT h A ω) (k : wok ω) : SpecR g_TV_generated [.ref A, .int a] h (pT h A (stGenerated ω a)) := by
  refine SpecR.of (by decide +kernel) (Nat.le_of_ble_eq_true rfl) (fun c hc => by cases hc; exact ⟨_, _, _, rfl, w.1⟩) (fun v h' z => ⟨⟨_, z.1⟩, z.2.2.1, z.2.2.2.1⟩) (fun Q hQ => ?_)
  generalize hO : stGenerated ω a = o at hQ
  unfold stGenerated at hO
  have bad : ∀ c, (c, ω) = o → Q (some (.int c)) h := fun c e => by subst e; exact hQ _ _ ⟨rfl, w, frm_rf⟩
  have hn1 : 2 ≤ wN ω := k.1.1
  have hn : wN ω ≤ 7 := k.1.2.1
  have hS : ∀ i, i < wN ω → sS ω.1 i < 4 := k.1.2.2.1
  have hG : ∀ r, r < 6 → PM (wN ω) (wG ω r) := k.1.2.2.2.1
  have hP : pok (wN ω) (wP ω) := k.1.2.2.2.2
  refine xgoal [] 100 ok_TV_generated ?_
  refine xci (sp_TV_isSetOfRegisters a h) ?_
  refine gdX (fun z => ?_) (fun i hi e hlt => ?_)
  · rw [gdN z] at hO; exact bad _ hO
  subst e
  rw [gdS hi] at hO
  refine xgf w.1 rfl ?_
  refine xgf w.1 rfl ?_
  refine xrv (sp_Sea_spread w.2.2.2.2.2.2.1 w.2.1 k.1 hlt (by omega)) ?_
  rintro h1 ⟨-, hs, fr1⟩
  have w1 := isT_sea w hs.sh fr1
  refine xgf w1.1 rfl ?_
  refine xgf hs.1 rfl ?_
  subst hO
  exact hQ _ _ ⟨rfl, w1, frm_wd fr1 (by omega) (by omega)⟩
theorem sp_TV_reach {h : xHp} {A : Nat} {ω : Wv} {a r : Int32} (w : isT h A ω) (k : wok ω) : SpecR g_TV_reach [.ref A, .int a, .int r] h (pT h A (stReach ω a r)) := by
  refine SpecR.of (by decide +kernel) (Nat.le_of_ble_eq_true rfl) (fun c hc => by cases hc; exact ⟨_, _, _, rfl, w.1⟩) (fun v h' z => ⟨⟨_, z.1⟩, z.2.2.1, z.2.2.2.1⟩) (fun Q hQ => ?_)
  generalize hO : stReach ω a r = o at hQ
  unfold stReach at hO
  have bad : ∀ c, (c, ω) = o → Q (some (.int c)) h := fun c e => by subst e; exact hQ _ _ ⟨rfl, w, frm_rf⟩
  have hn1 : 2 ≤ wN ω := k.1.1
  have hn : wN ω ≤ 7 := k.1.2.1
  have hS : ∀ i, i < wN ω → sS ω.1 i < 4 := k.1.2.2.1
  have hG : ∀ r, r < 6 → PM (wN ω) (wG ω r) := k.1.2.2.2.1
  have hP : pok (wN ω) (wP ω) := k.1.2.2.2.2
  refine xgoal [] 100 ok_TV_reach ?_
  refine xci (sp_TV_isSetOfRegisters a h) ?_
  refine gdX (fun z => ?_) (fun i hi e hlt => ?_)
  · rw [gdN z] at hO; exact bad _ hO
  subst e
  rw [gdS hi] at hO
  refine xci (sp_TV_isRegister r h) ?_
  refine gdX (fun z => ?_) (fun x hx e hx6 => ?_)
  · rw [gdN z] at hO; exact bad _ hO
  subst e
  rw [gdS hx] at hO
  have hb := (bfs_CI (wN ω) i (wG ω)).1
  have h5 := fct_le hn
  have hle := BI_le hb
  have hbb := hb.2.2.2 (rank (wN ω) (wG ω x))
  refine xgf w.1 rfl ?_
  refine xgf w.1 rfl ?_
  refine xrv (sp_Sea_spread w.2.2.2.2.2.2.1 w.2.1 k.1 hlt (by omega)) ?_
  rintro h1 ⟨-, hs, fr1⟩
  have w1 := isT_sea w hs.sh fr1
  obtain ⟨g, g1, g2⟩ := regs w1
  refine xgf w1.1 rfl ?_
  refine xgf w1.1 rfl ?_
  refine xgf w1.2.1.1 rfl ?_
  refine xal g1 rfl hx6 (by decide) ?_
  have sp := sp_Sea_depthOf hs hn (hG x hx6)
  rw [← g2 x hx6] at sp
  refine xci sp ?_
  refine And.intro (fun z => ?_) (fun z => ?_)
  · rw [fI_eq0 (by show bd (bfs (wN ω) i (wG ω)) (rank (wN ω) (wG ω x)) < _; omega)] at z
    rw [if_pos z] at hO
    subst hO
    exact hQ _ _ ⟨rfl, w1, frm_wd fr1 (by omega) (by omega)⟩
  · rw [fI_eq0 (by show bd (bfs (wN ω) i (wG ω)) (rank (wN ω) (wG ω x)) < _; omega)] at z
    rw [if_neg z] at hO
    subst hO
    have := hQ _ _ ⟨rfl, w1, frm_wd fr1 (by omega) (by omega)⟩
    rw [show fI (bd (bfs (wN ω) i (sR ω.1)) (rank (wN ω) (wG ω x))) = nI (bd (bfs (wN ω) i (wG ω)) (rank (wN ω) (wG ω x)) - 1) from if_neg z]
    exact this
theorem sp_TV_factor {h : xHp} {A : Nat} {ω : Wv} {a r b : Int32} (w : isT h A ω) (k : wok ω) : SpecR g_TV_factor [.ref A, .int a, .int r, .int b] h (pT h A (stFactor ω a r b)) := by
  refine SpecR.of (by decide +kernel) (Nat.le_of_ble_eq_true rfl) (fun c hc => by cases hc; exact ⟨_, _, _, rfl, w.1⟩) (fun v h' z => ⟨⟨_, z.1⟩, z.2.2.1, z.2.2.2.1⟩) (fun Q hQ => ?_)
  generalize hO : stFactor ω a r b = o at hQ
  unfold stFactor at hO
  have bad : ∀ c, (c, ω) = o → Q (some (.int c)) h := fun c e => by subst e; exact hQ _ _ ⟨rfl, w, frm_rf⟩
  have hn1 : 2 ≤ wN ω := k.1.1
  have hn : wN ω ≤ 7 := k.1.2.1
  have hS : ∀ i, i < wN ω → sS ω.1 i < 4 := k.1.2.2.1
  have hG : ∀ r, r < 6 → PM (wN ω) (wG ω r) := k.1.2.2.2.1
  have hP : pok (wN ω) (wP ω) := k.1.2.2.2.2
  refine xgoal [] 100 ok_TV_factor ?_
  refine xci (sp_TV_isSetOfRegisters a h) ?_
  refine gdX (fun z => ?_) (fun i hi e hlt => ?_)
  · rw [gdN z] at hO; exact bad _ hO
  subst e
  rw [gdS hi] at hO
  refine xci (sp_TV_isRegister r h) ?_
  refine gdX (fun z => ?_) (fun x hx e hx6 => ?_)
  · rw [gdN z] at hO; exact bad _ hO
  subst e
  rw [gdS hx] at hO
  have hb := (bfs_CI (wN ω) i (wG ω)).1
  have h5 := fct_le hn
  have hle := BI_le hb
  have hbb := hb.2.2.2 (rank (wN ω) (wG ω x))
  refine And.intro (fun z => ?_) (fun z => ?_)
  · rw [Int32.le_iff_toInt_le, nI_toInt (by omega)] at z
    rw [if_neg (by omega)] at hO
    have eb := n_of z
    have hb31 : b.toInt < 2 ^ 31 := Int32.toInt_lt b
    have hy31 : b.toInt.toNat < 2147483648 := by omega
    generalize b.toInt.toNat = y at hO eb hy31
    refine xgf w.1 rfl ?_
    refine xgf w.1 rfl ?_
    refine xrv (sp_Sea_spread w.2.2.2.2.2.2.1 w.2.1 k.1 hlt (by omega)) ?_
    rintro h1 ⟨-, hs, fr1⟩
    have w1 := isT_sea w hs.sh fr1
    obtain ⟨g, g1, g2⟩ := regs w1
    refine xgf w1.1 rfl ?_
    refine xgf w1.2.1.1 rfl ?_
    refine xal g1 rfl hx6 (by decide) ?_
    refine xgf w1.1 rfl ?_
    have sp := sp_Sea_depthOf hs hn (hG x hx6)
    rw [← g2 x hx6] at sp
    refine xci sp ?_
    by_cases c : y + 2 ≤ bd (bfs (wN ω) i (wG ω)) (rank (wN ω) (wG ω x))
    · rw [if_pos c] at hO
      refine And.intro (fun z2 => ?_) (fun _ => ?_)
      · exfalso
        rw [eb, show nI y = fI (y + 1) from rfl] at z2
        have := fI_lt (v := y + 1) (w := bd (bfs (wN ω) i (wG ω)) (rank (wN ω) (wG ω x))) (by omega) (by omega)
        rw [Int32.lt_iff_toInt_lt] at this
        rw [Int32.le_iff_toInt_le] at z2
        have := this.mpr (by omega)
        have z2 : (fI (bd (bfs (wN ω) i (wG ω)) (rank (wN ω) (wG ω x)))).toInt ≤ (fI (y + 1)).toInt := z2
        omega
      · refine xgf w1.1 rfl ?_
        have sp := sp_Sea_factorAt (i := y) hs hb hn hlt hG (fun f hf h2 => bfs_C hG hf h2) (hG x hx6) c
        rw [← g2 x hx6, ← eb] at sp
        refine xci sp ?_
        subst hO
        exact hQ _ _ ⟨rfl, w1, frm_wd fr1 (by omega) (by omega)⟩
    · rw [if_neg c] at hO
      refine And.intro (fun _ => ?_) (fun z2 => ?_)
      · subst hO
        exact hQ _ _ ⟨rfl, w1, frm_wd fr1 (by omega) (by omega)⟩
      · exfalso
        refine z2 ?_
        rw [eb]
        show fI (bd (bfs (wN ω) i (wG ω)) (rank (wN ω) (wG ω x))) ≤ nI y
        unfold fI
        split
        · rw [Int32.le_iff_toInt_le, nI_toInt hy31, show (-1 : Int32).toInt = -1 by decide]; omega
        · rw [Int32.le_iff_toInt_le, nI_toInt hy31, nI_toInt (by omega)]; omega
  · rw [Int32.le_iff_toInt_le, nI_toInt (by omega)] at z
    rw [if_pos (by omega)] at hO
    exact bad _ hO
