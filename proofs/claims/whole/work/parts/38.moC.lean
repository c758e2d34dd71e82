/-! THE REFERENCE'S CALLS: the text, permutations read from it -/
theorem nI_leN {a b : Nat} (ha : a < 2147483648) (hb : b < 2147483648) : nI a ≤ nI b ↔ a ≤ b := by
  rw [Int32.le_iff_toInt_le, nI_toInt ha, nI_toInt hb]; omega
/-- the byte at a place, as the reference tells it -/
def tI (T : Nat) (t : Nat → Nat) (k : Nat) : Int32 := if k < T then nI (t k) else -9
theorem tI_c {T k c : Nat} {t : Nat → Nat} (hb : bok T t) (h1 : 1 ≤ c) (h2 : c < 128) : tI T t k = nI c ↔ tb T t k = c := by
  unfold tI tb
  by_cases z : k < T
  · have := hb.2 k z
    rw [if_pos z, if_pos z, nI_eq (by omega) (by omega)]
  · rw [if_neg z, if_neg z]
    exact ⟨fun y => absurd y.symm (nI_m9 (by omega)), fun y => by omega⟩
theorem tI_e {T k : Nat} {t : Nat → Nat} (hb : bok T t) : tI T t k = -9 ↔ tb T t k = 0 := by
  unfold tI tb
  by_cases z : k < T
  · have := hb.2 k z
    rw [if_pos z, if_pos z]
    exact ⟨fun y => absurd y (nI_m9 (by omega)), fun y => by omega⟩
  · rw [if_neg z, if_neg z]; exact ⟨fun _ => rfl, fun _ => rfl⟩
theorem sp_Mo_byteAt {h : xHp} {B x : Nat} {ω : Wv} {F tx : Nat → Int32} (w : isMF h B ω F tx) (hT : wT ω ≤ 80) (hx : x < 1000) : Spec g_Mo_byteAt [.ref B, .int (nI x)] h (some (.int (tI (wT ω) (wt ω) x))) h := by
  obtain ⟨⟨lines, mw, spot, o⟩, -, -, ⟨w3, w4⟩, -⟩ := w
  refine Spec.of (by decide +kernel) (Nat.le_of_ble_eq_true rfl) ⟨_, rfl⟩ rfl rfl (fun c hc => by cases hc; exact ⟨_, _, _, rfl, o⟩) (fun Q hQ => ?_)
  refine xgoal [] 100 ok_Mo_byteAt ?_
  unfold tI at hQ
  refine xgf o rfl ?_
  refine pk_le (wT ω) x (fun z => ?_) (fun z => ?_)
  · rw [if_neg (by omega)] at hQ; exact hQ
  · rw [if_pos z] at hQ
    refine xgf o rfl ?_
    refine xal w3 rfl (show x < 80 by omega) (by decide) ?_
    rw [← w4 x z] at hQ
    exact hQ
theorem sp_Mo_isLetter {h : xHp} {B x m : Nat} {ω : Wv} {F tx : Nat → Int32} (w : isMF h B ω F tx) (hb : bok (wT ω) (wt ω)) (hx : x < 1000) (hm1 : 1 ≤ m) (hm : m ≤ 7) : Spec g_Mo_isLetter [.ref B, .int (nI x), .int (nI m)] h (some (.int (nI (if wlb (wT ω) (wt ω) m x = true then 1 else 0)))) h := by
  obtain ⟨fs, hrc⟩ := bM_rc w.b
  refine Spec.of (by decide +kernel) (Nat.le_of_ble_eq_true rfl) ⟨_, rfl⟩ rfl rfl (fun c hc => by cases hc; exact ⟨_, _, _, rfl, hrc⟩) (fun Q hQ => ?_)
  refine xgoal [] 100 ok_Mo_isLetter ?_
  refine xci (sp_Mo_byteAt w hb.1 hx) ?_
  have sp := sp_Mo_in (tI (wT ω) (wt ω) x) (nI 97) (nI 97 + nI m - nI 1) h
  have e : (nI 97 ≤ tI (wT ω) (wt ω) x ∧ tI (wT ω) (wt ω) x ≤ nI 97 + nI m - nI 1) ↔ wlb (wT ω) (wt ω) m x = true := by
    unfold wlb tI tb
    rw [decide_eq_true_eq, nI_add, pk_sub (by omega)]
    by_cases z : x < wT ω
    · have := hb.2 x z
      rw [if_pos z, if_pos z, nI_leN (by omega) (by omega), nI_leN (by omega) (by omega)]
      omega
    · rw [if_neg z, if_neg z]
      constructor
      · rintro ⟨y, -⟩
        rw [Int32.le_iff_toInt_le, nI_toInt (by omega), show (-9 : Int32).toInt = -9 by decide] at y
        omega
      · rintro ⟨y, -⟩; omega
  by_cases c : wlb (wT ω) (wt ω) m x = true
  · rw [if_pos c] at hQ
    rw [if_pos (e.mpr c)] at sp
    exact xci sp ⟨Or.inr rfl, hQ⟩
  · rw [if_neg c] at hQ
    rw [if_neg (fun z => c (e.mp z))] at sp
    exact xci sp ⟨Or.inl rfl, hQ⟩
theorem sp_Mo_type {h : xHp} {B : Nat} {ω : Wv} {c : Int32} (w : isM h B ω) (k : wok ω) : SpecR g_Mo_type [.ref B, .int c] h (pM h B (stType ω c)) := by
  obtain ⟨F, tx, w⟩ := w
  obtain ⟨fs, hrc⟩ := bM_rc w.b
  refine SpecR.of (by decide +kernel) (Nat.le_of_ble_eq_true rfl) (fun c hc => by cases hc; exact ⟨_, _, _, rfl, hrc⟩) (fun v h' z => ⟨⟨_, z.1⟩, z.2.2.1, z.2.2.2.1⟩) (fun Q hQ => ?_)
  generalize hO : stType ω c = o at hQ
  unfold stType at hO
  have bad : ∀ c, (c, ω) = o → Q (some (.int c)) h := fun c e => by subst e; exact hQ _ _ ⟨rfl, ⟨F, tx, w⟩, frm_rf⟩
  have fin : ∀ (v : Int32) (ω' : Wv) (h' : xHp) (F' tx' : Nat → Int32), (v, ω') = o → isMF h' B ω' F' tx' → frm h h' B (B + 14) → Q (some (.int v)) h' := fun v ω' h' F' tx' e w' f => by subst e; exact hQ _ _ ⟨rfl, ⟨F', tx', w'⟩, f⟩
  have hn1 : 2 ≤ wN ω := k.1.1
  have hn : wN ω ≤ 7 := k.1.2.1
  have hS : ∀ i, i < wN ω → sS ω.1 i < 4 := k.1.2.2.1
  have hG : ∀ r, r < 6 → PM (wN ω) (wG ω r) := k.1.2.2.2.1
  have hP : pok (wN ω) (wP ω) := k.1.2.2.2.2
  refine xgoal [] 100 ok_Mo_type ?_
  have hT := k.2.2.1
  obtain ⟨⟨lines, mw, spot, o⟩, w1, w2, ⟨w3, w4⟩, w5⟩ := id w
  refine xci (sp_Mo_in c (nI 33) (nI 126) h) ?_
  have hix : (nI 33 ≤ c ∧ c ≤ nI 126) ↔ ∃ m, ix 127 c = some m ∧ 33 ≤ m := by
    rw [Int32.le_iff_toInt_le, Int32.le_iff_toInt_le, nI_toInt (by omega), nI_toInt (by omega)]
    unfold ix
    constructor
    · intro z; exact ⟨_, if_pos (by omega), by omega⟩
    · rintro ⟨m, hm, h2⟩
      split at hm
      · cases hm; omega
      · cases hm
  by_cases cc : nI 33 ≤ c ∧ c ≤ nI 126
  · obtain ⟨m, hm, h2⟩ := hix.mp cc
    obtain ⟨e, hlt⟩ := ix_some hm
    rw [gdS hm, if_neg (by omega)] at hO
    refine pk_eq 1 0 (fun z => absurd z (by omega)) (fun _ => ?_) (by rw [if_pos cc]) rfl
    subst e
    refine xgf o rfl ?_
    refine pk_eq (wT ω) 80 (fun z => ?_) (fun z => ?_)
    · rw [if_pos (by omega)] at hO; exact bad _ hO
    · rw [if_neg (by omega)] at hO
      refine xgf o rfl ?_
      refine xgf o rfl ?_
      refine xal w3 rfl (show wT ω < 80 by omega) (by decide) ?_
      have fr2 : frm h (xset h (B + 2) (xia 80 (upd tx (wT ω) (nI m)))) (B + 2) (B + 3) := frm_set frm_rf (by omega) (by omega)
      refine xgf (xat_fr o fr2 (by omega)) rfl ?_
      refine xpf (xat_fr o fr2 (by omega)) (Nat.le_of_ble_eq_true rfl) rfl ?_
      have o2 := xat_sf (h := xset h (B + 2) (xia 80 (upd tx (wT ω) (nI m)))) (e := obM B (nI ω.2.1.length) (nI (wT ω) + nI 1) lines mw spot) o.1
      refine xgf o2 rfl ?_
      have fr3 : frm h (xset (xset h (B + 2) (xia 80 (upd tx (wT ω) (nI m)))) B (obM B (nI ω.2.1.length) (nI (wT ω) + nI 1) lines mw spot)) B (B + 3) := frm_set (frm_wd fr2 (by omega) (by omega)) (by omega) (by omega)
      have eo : nI (wT ω + 1) = nI (wT ω) + nI 1 := (nI_add _ _).symm
      rw [eo] at hO
      refine fin _ _ _ F (upd tx (wT ω) (nI m)) hO ⟨⟨lines, mw, spot, ?_⟩, xat_set (xat_fr w1 fr2 (by omega)) (by omega), w2, ⟨xat_set (xat_sf w3.1) (by omega), fun i hi => ?_⟩, (w5.fr fr2 (by omega)).fr (frm_set (lo := B) (hi := B + 1) frm_rf (by omega) (by omega)) (by omega)⟩ (frm_wd fr3 (by omega) (by omega))
      · show xat _ B (obM B (nI ω.2.1.length) (nI (wT ω + 1)) lines mw spot)
        rw [eo]; exact o2
      · have hi : i < wT ω + 1 := hi
        show upd tx (wT ω) (nI m) i = nI (upn (wt ω) (wT ω) m i)
        unfold upd upn
        by_cases e : i = wT ω
        · rw [if_pos e, if_pos e]
        · rw [if_neg e, if_neg e]; exact w4 i (by omega)
  · refine pk_eq 0 0 (fun _ => ?_) (fun z => absurd rfl z) (by rw [if_neg cc]) rfl
    cases hm : ix 127 c with
    | none => rw [gdN hm] at hO; exact bad _ hO
    | some m =>
      have : ¬ 33 ≤ m := fun z => cc (hix.mpr ⟨m, hm, z⟩)
      rw [gdS hm, if_pos (by omega)] at hO; exact bad _ hO
theorem sp_Mo_clear {h : xHp} {B : Nat} {ω : Wv} (w : isM h B ω) (k : wok ω) : SpecR g_Mo_clear [.ref B] h (pM h B (stClear ω)) := by
  obtain ⟨F, tx, w⟩ := w
  obtain ⟨fs, hrc⟩ := bM_rc w.b
  refine SpecR.of (by decide +kernel) (Nat.le_of_ble_eq_true rfl) (fun c hc => by cases hc; exact ⟨_, _, _, rfl, hrc⟩) (fun v h' z => ⟨⟨_, z.1⟩, z.2.2.1, z.2.2.2.1⟩) (fun Q hQ => ?_)
  generalize hO : stClear ω = o at hQ
  unfold stClear at hO
  have bad : ∀ c, (c, ω) = o → Q (some (.int c)) h := fun c e => by subst e; exact hQ _ _ ⟨rfl, ⟨F, tx, w⟩, frm_rf⟩
  have fin : ∀ (v : Int32) (ω' : Wv) (h' : xHp) (F' tx' : Nat → Int32), (v, ω') = o → isMF h' B ω' F' tx' → frm h h' B (B + 14) → Q (some (.int v)) h' := fun v ω' h' F' tx' e w' f => by subst e; exact hQ _ _ ⟨rfl, ⟨F', tx', w'⟩, f⟩
  have hn1 : 2 ≤ wN ω := k.1.1
  have hn : wN ω ≤ 7 := k.1.2.1
  have hS : ∀ i, i < wN ω → sS ω.1 i < 4 := k.1.2.2.1
  have hG : ∀ r, r < 6 → PM (wN ω) (wG ω r) := k.1.2.2.2.1
  have hP : pok (wN ω) (wP ω) := k.1.2.2.2.2
  refine xgoal [] 100 ok_Mo_clear ?_
  obtain ⟨⟨lines, mw, spot, o⟩, w1, w2, ⟨w3, w4⟩, w5⟩ := id w
  refine xgf o rfl ?_
  refine xpf o (Nat.le_of_ble_eq_true rfl) rfl ?_
  have fr2 : frm h (xset h B (obM B (nI ω.2.1.length) (nI 0) lines mw spot)) B (B + 1) := frm_set frm_rf (by omega) (by omega)
  exact fin _ _ _ F tx hO ⟨⟨lines, mw, spot, xat_sf o.1⟩, xat_fr w1 fr2 (by omega), w2, ⟨xat_fr w3 fr2 (by omega), fun i hi => absurd hi (Nat.not_lt_zero i)⟩, w5.fr fr2 (by omega)⟩ (frm_wd fr2 (by omega) (by omega))
theorem sp_Mo_readsTurn {h : xHp} {B : Nat} {ω : Wv} {F tx : Nat → Int32} (w : isMF h B ω F tx) (k : wok ω) : SpecR g_Mo_readsTurn [.ref B] h (fun v h' => (match trun (wN ω) (wt ω) (wT ω) 0 (fun i => i) 0 false 0 0 with | .inl f => v = some (.int (nI 0)) ∧ ∃ lines mw, isMO h' B ω F tx lines mw (nI f) | .inr f => v = some (.int (nI 1)) ∧ isMF h' B ω F tx ∧ isRw h' (B + 3) (wN ω) f) ∧ frm h h' B (B + 14)) := by
  obtain ⟨fs, hrc⟩ := bM_rc w.b
  have hn : wN ω ≤ 7 := k.1.2.1
  have hb := k.2.2
  have hT := hb.1
  generalize hX : trun (wN ω) (wt ω) (wT ω) 0 (fun i => i) 0 false 0 0 = X
  refine SpecR.of (by decide +kernel) (Nat.le_of_ble_eq_true rfl) (fun c hc => by cases hc; exact ⟨_, _, _, rfl, hrc⟩) (fun v h' z => ⟨?_, z.2.1, z.2.2.1⟩) (fun Q hQ => ?_)
  · have z := z.1
    split at z
    · exact ⟨_, z.1⟩
    · exact ⟨_, z.1⟩
  have stop : ∀ (k1 : xHp) (pos : Nat) (l m : Int32), frm h k1 B (B + 14) → isMO k1 B ω F tx l m (nI pos) → X = .inl pos → Q (some (.int (nI 0))) k1 := fun k1 pos l m fr w1 e => by
    rw [e] at hQ
    exact hQ _ _ ⟨⟨rfl, l, m, w1⟩, fr⟩
  have key := up_loop (P := fun pos =>
    (∀ (k1 : xHp) (f : Nat → Nat) (wr fi la : Nat) (l m : Int32), frm h k1 B (B + 14) → isMO k1 B ω F tx l m (nI pos) → isRw k1 (B + 3) (wN ω) f → trI (wN ω) f wr false fi la → X = trun (wN ω) (wt ω) (wT ω - pos) pos f wr false fi la → xAt (h.1, h.2.1) g_Mo_readsTurn Q 15 [(0, .ref B), (1, .int (nI wr))] [] k1) ∧
    (∀ (k1 : xHp) (f : Nat → Nat) (wr fi la : Nat) (l m v3 : Int32), frm h k1 B (B + 14) → isMO k1 B ω F tx l m (nI pos) → isRw k1 (B + 3) (wN ω) f → trI (wN ω) f wr true fi la → v3 = (if fi = 0 then -9 else nI la) → X = trun (wN ω) (wt ω) (wT ω - pos) pos f wr true fi la → xAt (h.1, h.2.1) g_Mo_readsTurn Q 57 [(0, .ref B), (1, .int (nI wr)), (2, .int (faI fi)), (3, .int v3)] [] k1)) (wT ω) ?_ (fun pos hpos ih => ?_) 0 (Nat.zero_le _)
  · obtain ⟨l0, m0, s0, o0⟩ := w.1
    refine xgoal [(15, [0, 1])] 100 ok_Mo_readsTurn ?_
    refine xgf o0 rfl ?_
    refine xrv (sp_Mo_identity w.b (w.rw_ (c := 3) (by omega) (by omega))) ?_
    rintro h1 ⟨-, ⟨u, u1, u2⟩, fr1⟩
    have w1 : isMO h1 B ω F tx l0 m0 s0 := isMO.sc (c := 3) ⟨o0, w⟩ fr1 (by omega) ⟨u, u1⟩
    refine xpf w1.1 (Nat.le_of_ble_eq_true rfl) rfl ?_
    have w2 := w1.ob l0 m0 (nI 0)
    exact key.1 _ (fun i => i) 0 0 0 l0 m0 (frm_set (frm_wd fr1 (show B ≤ B + 3 by omega) (show B + 3 + 1 ≤ B + 14 by omega)) (by omega) (by omega)) w2 ⟨u, xat_set u1 (by omega), fun i hi => u2 i (by omega)⟩ ⟨Nat.two_pow_pos _, fun i hi => hi, fun x _ _ => rfl, by rw [if_neg (by simp)]; exact PM_id _⟩ hX.symm
  · constructor
    · intro k1 f wr fi la l m fr w1 r1 hI he
      rw [Nat.sub_self] at he
      unfold trun at he
      rw [if_neg (by simp)] at he
      rw [he] at hQ
      refine xgoal [(15, [0, 1]), (57, [0, 1, 2, 3])] 100 ok_Mo_readsTurn ?_
      refine xgf w1.1 rfl ?_
      refine xgf w1.1 rfl ?_
      exact pk_le (wT ω) (wT ω) (fun _ => ⟨Or.inr rfl, hQ _ _ ⟨⟨rfl, w1.2, r1⟩, fr⟩⟩) (fun z => absurd z (by omega))
    · intro k1 f wr fi la l m v3 fr w1 r1 hI hv he
      rw [Nat.sub_self] at he
      unfold trun at he
      rw [if_pos rfl] at he
      have hst := stop k1 (wT ω) l m fr w1 he
      have etI : tI (wT ω) (wt ω) (wT ω) = -9 := if_neg (Nat.lt_irrefl _)
      have spb := sp_Mo_byteAt (x := wT ω) w1.2 hT (by omega)
      rw [etI] at spb
      have spi := sp_Mo_in (-9) (nI 49) (nI 48 + nI (wN ω)) k1
      rw [if_neg (fun z => by
        have := z.1
        rw [Int32.le_iff_toInt_le, nI_toInt (by omega), show (-9 : Int32).toInt = -9 by decide] at this
        omega)] at spi
      refine xgoal [(15, [0, 1]), (57, [0, 1, 2, 3])] 100 ok_Mo_readsTurn ?_
      refine xgf w1.1 rfl ?_
      refine xci spb ?_
      refine xci (sp_Mo_size w1.2.b) ?_
      refine xci spi ?_
      refine pk_eq 0 0 (fun _ => ?_) (fun z => absurd rfl z)
      refine xgf w1.1 rfl ?_
      refine xci spb ?_
      exact And.intro (fun z => absurd z.symm (nI_m9 (by omega))) (fun _ => ⟨Or.inl rfl, hst⟩)
  · obtain ⟨b1, b2⟩ := hb.2 pos hpos
    obtain ⟨ih15, ih57⟩ := ih
    have hsub : wT ω - pos = (wT ω - (pos + 1)) + 1 := by omega
    have etI : tI (wT ω) (wt ω) pos = nI (wt ω pos) := if_pos hpos
    constructor
    · intro k1 f wr fi la l m fr w1 r1 hI he
      rw [hsub] at he
      unfold trun at he
      rw [if_pos rfl] at he
      have spb := sp_Mo_byteAt (x := pos) w1.2 hT (by omega)
      rw [etI] at spb
      refine xgoal [(15, [0, 1]), (57, [0, 1, 2, 3])] 100 ok_Mo_readsTurn ?_
      refine xgf w1.1 rfl ?_
      refine xgf w1.1 rfl ?_
      refine pk_le (wT ω) pos (fun z => absurd z (by omega)) (fun _ => ?_)
      refine xgf w1.1 rfl ?_
      refine xci spb ?_
      refine pk_eq (wt ω pos) 40 (fun c => ?_) (fun c => ?_)
      · rw [if_pos c] at he
        refine xgf w1.1 rfl ?_
        refine xpf w1.1 (Nat.le_of_ble_eq_true rfl) rfl ?_
        have w2 := w1.ob l m (nI pos + nI 1)
        rw [nI_add] at w2
        have := ih57 _ f wr 0 la l m (-9) (frm_set fr (Nat.le_refl _) (by omega)) w2 (r1.fr (frm_set (lo := B) (hi := B + 1) frm_rf (by omega) (by omega)) (by omega)) (trI_open hI la) rfl he
        rw [← nI_add] at this
        exact this
      · rw [if_neg c] at he
        exact ⟨Or.inl rfl, stop k1 pos l m fr w1 he⟩
    · intro k1 f wr fi la l m v3 fr w1 r1 hI hv he
      rw [hsub] at he
      unfold trun at he
      rw [if_neg (by simp)] at he
      have hI2 := hI
      obtain ⟨i1, i2, i3, i4⟩ := hI2
      have i1' : wr < 2 ^ 7 := Nat.lt_of_lt_of_le i1 (Nat.pow_le_pow_right (by omega) hn)
      have spb := sp_Mo_byteAt (x := pos) w1.2 hT (by omega)
      rw [etI] at spb
      have spi := sp_Mo_in (nI (wt ω pos)) (nI 49) (nI 48 + nI (wN ω)) k1
      have ein : (nI 49 ≤ nI (wt ω pos) ∧ nI (wt ω pos) ≤ nI 48 + nI (wN ω)) ↔ ¬ (wt ω pos < 49 ∨ wN ω ≤ wt ω pos - 49) := by
        rw [nI_add, nI_leN (by omega) (by omega), nI_leN (by omega) (by omega)]; omega
      -- behind the digits
      have rest : (wt ω pos < 49 ∨ wN ω ≤ wt ω pos - 49 ∨ wr / 2 ^ (wt ω pos - 49) % 2 = 1) → xAt (h.1, h.2.1) g_Mo_readsTurn Q 161 [(0, .ref B), (1, .int (nI wr)), (2, .int (faI fi)), (3, .int v3)] [] k1 := fun hno => by
        refine xgoal [(15, [0, 1]), (57, [0, 1, 2, 3])] 100 ok_Mo_readsTurn ?_
        refine xgf w1.1 rfl ?_
        refine xci spb ?_
        refine pk_eq (wt ω pos) 41 (fun c => ?_) (fun c => ?_)
        · by_cases hf : fi = 0
          · rw [if_neg (fun z => z.2 hf), if_pos hno] at he
            subst hf
            exact And.intro (fun _ => ⟨Or.inl rfl, stop k1 pos l m fr w1 he⟩) (fun z => absurd rfl z)
          · rw [if_pos ⟨c, hf⟩] at he
            rw [if_pos ⟨rfl, hf⟩] at i4
            have ef : faI fi = nI (fi - 1) := if_neg hf
            rw [if_neg hf] at hv
            subst hv
            refine And.intro (fun z => absurd z (by rw [ef]; exact nI_m9 (by omega))) (fun _ => ?_)
            obtain ⟨u, u1, u2⟩ := r1
            refine xgf w1.1 rfl ?_
            refine xal u1 rfl (show la < 7 by omega) (by decide) ?_
            have fr3 : frm k1 (xset k1 (B + 3) (xia 7 (upd u la (faI fi)))) (B + 3) (B + 3 + 1) := frm_set frm_rf (by omega) (by omega)
            have w3 := w1.sc (c := 3) fr3 (by omega) ⟨_, xat_sf u1.1⟩
            refine xgf w3.1 rfl ?_
            refine xpf w3.1 (Nat.le_of_ble_eq_true rfl) rfl ?_
            have w4 := w3.ob l m (nI pos + nI 1)
            rw [nI_add] at w4
            have := ih15 _ (upn f la (fi - 1)) wr fi la l m (frm_set (frm_tr fr fr3 (by omega) (by omega)) (Nat.le_refl _) (by omega)) w4 ⟨_, xat_set (xat_sf u1.1) (by omega), fun j hj => by
              unfold upd upn
              by_cases e : j = la
              · rw [if_pos e, if_pos e, ef]
              · rw [if_neg e, if_neg e]; exact u2 j hj⟩ (trI_close hI hf) he
            rw [← nI_add] at this
            exact this
        · rw [if_neg (fun z => c z.1), if_pos hno] at he
          exact ⟨Or.inl rfl, stop k1 pos l m fr w1 he⟩
      refine xgoal [(57, [0, 1, 2, 3]), (161, [0, 1, 2, 3])] 100 ok_Mo_readsTurn ?_
      refine xgf w1.1 rfl ?_
      refine xci spb ?_
      refine xci (sp_Mo_size w1.2.b) ?_
      by_cases cd : wt ω pos < 49 ∨ wN ω ≤ wt ω pos - 49
      · rw [if_neg (fun z => ein.mp z cd)] at spi
        refine xci spi ?_
        exact pk_eq 0 0 (fun _ => rest (cd.elim Or.inl (fun z => Or.inr (Or.inl z)))) (fun z => absurd rfl z)
      · rw [if_pos (ein.mpr cd)] at spi
        refine xci spi ?_
        refine pk_eq 1 0 (fun z => absurd z (by omega)) (fun _ => ?_)
        refine xgf w1.1 rfl ?_
        refine xci spb ?_
        have e1 : nI (wt ω pos) - nI 49 = nI (wt ω pos - 49) := pk_sub (by omega)
        have e2 : nI wr >>> ((nI (wt ω pos) - nI 49) &&& 31) &&& nI 1 = nI (wr / 2 ^ (wt ω pos - 49) % 2) := by
          rw [e1, n_shr (by omega) (by omega), n_and, show (1 : Nat) = 2 ^ 1 - 1 from rfl, Nat.and_two_pow_sub_one_eq_mod]
        have e3 : nI wr ||| (nI 1 <<< ((nI (wt ω pos) - nI 49) &&& 31)) = nI (wr ||| 2 ^ (wt ω pos - 49)) := by
          rw [e1, n_shl _ _ (by omega), n_or, Nat.one_mul]
        refine pk_eq (wr / 2 ^ (wt ω pos - 49) % 2) 0 (fun c3 => ?_) (fun c3 => ?_) e2 rfl
        · have hI' := trI_line hI (l := wt ω pos - 49) (by omega) (by omega)
          rw [if_neg (fun z => by omega), if_neg (fun z => by omega)] at he
          refine xgf w1.1 rfl ?_
          refine xci spb ?_
          have eI : faI (if fi = 0 then wt ω pos - 49 + 1 else fi) = if fi = 0 then nI (wt ω pos) - nI 49 else faI fi := by
            by_cases hf : fi = 0
            · rw [if_pos hf, if_pos hf, e1]; rfl
            · rw [if_neg hf, if_neg hf]
          by_cases hf : fi = 0
          · subst hf
            rw [if_pos rfl] at hv
            subst hv
            rw [if_pos rfl, if_pos rfl] at he hI'
            rw [if_pos rfl, if_pos rfl] at eI
            refine And.intro (fun _ => ?_) (fun z => absurd rfl z)
            refine And.intro (fun _ => ?_) (fun z => absurd rfl z)
            refine xgf w1.1 rfl ?_
            refine xpf w1.1 (Nat.le_of_ble_eq_true rfl) rfl ?_
            have w4 := w1.ob l m (nI pos + nI 1)
            rw [nI_add] at w4
            have := ih57 _ f _ (wt ω pos - 49 + 1) (wt ω pos - 49) l m (nI (wt ω pos) - nI 49) (frm_set fr (Nat.le_refl _) (by omega)) w4 (r1.fr (frm_set (lo := B) (hi := B + 1) frm_rf (by omega) (by omega)) (by omega)) hI' (by rw [if_neg (by omega), e1]) he
            rw [← nI_add, ← e3, eI] at this
            exact this
          · rw [if_neg hf] at hv
            subst hv
            rw [if_neg hf, if_neg hf] at he hI'
            rw [if_pos ⟨rfl, hf⟩] at i4
            have ef : faI fi = nI (fi - 1) := if_neg hf
            refine And.intro (fun z => absurd z (by rw [ef]; exact nI_m9 (by omega))) (fun _ => ?_)
            refine And.intro (fun z => absurd z (nI_m9 (by omega))) (fun _ => ?_)
            obtain ⟨u, u1, u2⟩ := r1
            refine xgf w1.1 rfl ?_
            refine xal u1 rfl (show la < 7 by omega) (by decide) ?_
            have fr3 : frm k1 (xset k1 (B + 3) (xia 7 (upd u la (nI (wt ω pos) - nI 49)))) (B + 3) (B + 3 + 1) := frm_set frm_rf (by omega) (by omega)
            have w3 := w1.sc (c := 3) fr3 (by omega) ⟨_, xat_sf u1.1⟩
            refine xgf w3.1 rfl ?_
            refine xpf w3.1 (Nat.le_of_ble_eq_true rfl) rfl ?_
            have w4 := w3.ob l m (nI pos + nI 1)
            rw [nI_add] at w4
            have := ih57 _ (upn f la (wt ω pos - 49)) _ fi (wt ω pos - 49) l m (nI (wt ω pos) - nI 49) (frm_set (frm_tr fr fr3 (by omega) (by omega)) (Nat.le_refl _) (by omega)) w4 ⟨_, xat_set (xat_sf u1.1) (by omega), fun j hj => by
              unfold upd upn
              by_cases e : j = la
              · rw [if_pos e, if_pos e, e1]
              · rw [if_neg e, if_neg e]; exact u2 j hj⟩ hI' (by rw [if_neg hf, e1]) he
            rw [← nI_add, ← e3] at this
            exact this
        · exact rest (Or.inr (Or.inr (by omega)))
theorem sp_Mo_loadTurn {h : xHp} {B : Nat} {ω : Wv} {r : Int32} (w : isM h B ω) (k : wok ω) : SpecR g_Mo_loadTurn [.ref B, .int r] h (pM h B (stLoadTurn ω r)) := by
  obtain ⟨F, tx, w⟩ := w
  obtain ⟨fs, hrc⟩ := bM_rc w.b
  refine SpecR.of (by decide +kernel) (Nat.le_of_ble_eq_true rfl) (fun c hc => by cases hc; exact ⟨_, _, _, rfl, hrc⟩) (fun v h' z => ⟨⟨_, z.1⟩, z.2.2.1, z.2.2.2.1⟩) (fun Q hQ => ?_)
  generalize hO : stLoadTurn ω r = o at hQ
  unfold stLoadTurn at hO
  have bad : ∀ c, (c, ω) = o → Q (some (.int c)) h := fun c e => by subst e; exact hQ _ _ ⟨rfl, ⟨F, tx, w⟩, frm_rf⟩
  have fin : ∀ (v : Int32) (ω' : Wv) (h' : xHp) (F' tx' : Nat → Int32), (v, ω') = o → isMF h' B ω' F' tx' → frm h h' B (B + 14) → Q (some (.int v)) h' := fun v ω' h' F' tx' e w' f => by subst e; exact hQ _ _ ⟨rfl, ⟨F', tx', w'⟩, f⟩
  have hn1 : 2 ≤ wN ω := k.1.1
  have hn : wN ω ≤ 7 := k.1.2.1
  have hS : ∀ i, i < wN ω → sS ω.1 i < 4 := k.1.2.2.1
  have hG : ∀ r, r < 6 → PM (wN ω) (wG ω r) := k.1.2.2.2.1
  have hP : pok (wN ω) (wP ω) := k.1.2.2.2.2
  refine xgoal [] 100 ok_Mo_loadTurn ?_
  refine xci (sp_Mo_isRegister r h) ?_
  refine gdX (fun z => ?_) (fun i hi e hlt => ?_)
  · rw [gdN z] at hO; exact bad _ hO
  subst e
  rw [gdS hi] at hO
  refine xri (sp_Mo_readsTurn w k) ?_
  rintro v h1 ⟨hm, fr1⟩
  cases ht : trun (wN ω) (wt ω) (wT ω) 0 (fun i => i) 0 false 0 0 with
  | inl f =>
    rw [ht] at hm hO
    obtain ⟨e, l, m, w1⟩ := hm
    cases e
    refine pk_eq 0 0 (fun _ => ?_) (fun z => absurd rfl z)
    refine xgf w1.1 rfl ?_
    exact fin _ _ h1 F tx hO w1.2 fr1
  | inr f =>
    rw [ht] at hm hO
    obtain ⟨e, w1, r1⟩ := hm
    cases e
    have hpm : PM (wN ω) f := trun_PM _ _ _ _ _ _ _ ⟨Nat.two_pow_pos _, fun i hi => hi, fun x _ _ => rfl, by rw [if_neg (by simp)]; exact PM_id _⟩ ht
    refine pk_eq 1 0 (fun z => absurd z (by omega)) (fun _ => ?_)
    refine ⟨_, sp_Mo_recordsO w1.1.choose_spec.choose_spec.choose_spec w1 k, fun h2 z => ?_⟩
    obtain ⟨-, ⟨F2, w2, -⟩, fr2, -⟩ := z
    have r2 := r1.fr fr2 (by omega)
    obtain ⟨l2, m2, s2, o2⟩ := w2.1
    refine xgf o2 rfl ?_
    refine xputs w2 (rcd_ok k) hlt r2 (by omega) (fun h3 F3 w3 fr3 => ?_)
    obtain ⟨l3, m3, s3, o3⟩ := w3.1
    refine xgf o3 rfl ?_
    refine xci (sp_Mo_rank w3.b hn (r2.fr fr3 (by omega)) (PM8 hn hpm)) ?_
    exact fin _ _ h3 F3 tx hO w3 (frm_tr (frm_tr fr1 fr2 (by omega) (by omega)) fr3 (by omega) (by omega))
