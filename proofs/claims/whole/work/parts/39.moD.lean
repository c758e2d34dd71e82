/-! THE REFERENCE'S CALLS: poems read from the text -/
def mdP (M : Nat → Int32) (n : Nat) (p : Pv) : Prop := M 0 = nI (pc p) ∧ (∀ s, s < pc p → ∀ i, i < n → M (1 + 7 * s + i) = nI (pst p s i)) ∧ (∀ x, 57 ≤ x → x < 113 → M x = nI 0) ∧ M 113 = nI (ptl p) ∧ (∀ l, l < ptl p → M (114 + l) = nI (ptn p l)) ∧ ∀ l, l < ptl p → ∀ k, k < ptn p l → M (118 + 3 * l + k) = nI (ptw p l k)
def isMd (h : xHp) (B n : Nat) (p : Pv) : Prop := ∃ M, xat h (B + 8) (xia 130 M) ∧ mdP M n p
theorem isMd.fr {h h' : xHp} {B n lo hi : Nat} {p : Pv} (r : isMd h B n p) (z : frm h h' lo hi) (hd : B + 8 < lo ∨ hi ≤ B + 8) : isMd h' B n p := by
  obtain ⟨M, g1, g2⟩ := r
  exact ⟨M, xat_fr g1 z hd, g2⟩
theorem over_c {T k : Nat} {t : Nat → Nat} (hb : bok T t) : over T t k = true ↔ tI T t k = -9 ∨ tI T t k = nI 47 ∨ tI T t k = nI 59 := by
  unfold over
  rw [decide_eq_true_eq, tI_e hb, tI_c hb (by omega) (by omega), tI_c hb (by omega) (by omega)]
  constructor
  · rintro (z | z | z)
    · exact Or.inr (Or.inl z)
    · exact Or.inr (Or.inr z)
    · exact Or.inl z
  · rintro (z | z | z)
    · exact Or.inr (Or.inr z)
    · exact Or.inl z
    · exact Or.inr (Or.inl z)
theorem frmB {h : xHp} {B : Nat} {e : xE} : frm h (xset h B e) B (B + 1) := frm_set frm_rf (Nat.le_refl _) (by omega)
theorem sp_Mo_readsFirst {h : xHp} {B : Nat} {ω : Wv} {F tx M : Nat → Int32} {l m : Int32} (w : isMO h B ω F tx l m (nI 0)) (hb : bok (wT ω) (wt ω)) (hM : xat h (B + 8) (xia 130 M)) (hz : ∀ x, x < 130 → M x = nI 0) : SpecR g_Mo_readsFirst [.ref B] h (fun v h' => (match pfirst (wT ω) (wt ω) with | .inl f => v = some (.int (nI 0)) ∧ ∃ m', isMO h' B ω F tx l m' (nI f) | .inr L => v = some (.int (nI 1)) ∧ isMO h' B ω F tx l (nI L) (nI L) ∧ isMd h' B L (padd pv0 (ltr (wt ω) 0))) ∧ frm h h' B (B + 14)) := by
  obtain ⟨fs, hrc⟩ := bM_rc w.2.b
  have hT := hb.1
  have hL7 := wct_le (wT ω) (wt ω) 7 7 0
  have hlt : ∀ i, i < wct (wT ω) (wt ω) 7 7 0 → wlb (wT ω) (wt ω) 7 (0 + i) = true := fun i hi => wct_yes hi
  generalize hX : pfirst (wT ω) (wt ω) = X
  unfold pfirst at hX
  generalize hL : wct (wT ω) (wt ω) 7 7 0 = L at hX hL7 hlt
  refine SpecR.of (by decide +kernel) (Nat.le_of_ble_eq_true rfl) (fun c hc => by cases hc; exact ⟨_, _, _, rfl, hrc⟩) (fun v h' z => ⟨?_, z.2.1, z.2.2.1⟩) (fun Q hQ => ?_)
  · have z := z.1
    split at z
    · exact ⟨_, z.1⟩
    · exact ⟨_, z.1⟩
  have stop : ∀ (k1 : xHp) (f : Nat) (m : Int32), frm h k1 B (B + 14) → isMO k1 B ω F tx l m (nI f) → X = .inl f → Q (some (.int (nI 0))) k1 := fun k1 f m fr w1 e => by
    rw [e] at hQ
    exact hQ _ _ ⟨⟨rfl, m, w1⟩, fr⟩
  have at57 : ∀ (k1 : xHp) (m : Int32) (M1 : Nat → Int32), frm h k1 B (B + 14) → isMO k1 B ω F tx l m (nI L) → xat k1 (B + 8) (xia 130 M1) → (∀ i, i < L → M1 (1 + i) = nI (wt ω i - 97)) → (∀ x, x < 130 → 1 + L ≤ x → M1 x = nI 0) → xAt (h.1, h.2.1) g_Mo_readsFirst Q 57 [(0, .ref B)] [] k1 := by
    intro k1 m M1 fr1 w1 g1 h1 h2
    have w2 := w1.ob l (nI L) (nI L)
    have fr2 : frm h (xset k1 B (obM B (nI ω.2.1.length) (nI (wT ω)) l (nI L) (nI L))) B (B + 14) := frm_set fr1 (Nat.le_refl _) (by omega)
    have g2 : xat (xset k1 B (obM B (nI ω.2.1.length) (nI (wT ω)) l (nI L) (nI L))) (B + 8) (xia 130 M1) := xat_set g1 (by omega)
    generalize hk2 : xset k1 B (obM B (nI ω.2.1.length) (nI (wT ω)) l (nI L) (nI L)) = k2 at w2 fr2 g2
    have at92 : over (wT ω) (wt ω) L = true → xAt (h.1, h.2.1) g_Mo_readsFirst Q 92 [(0, .ref B)] [] k2 := by
      intro ho
      refine xgoal [(104, [0, 2])] 100 ok_Mo_readsFirst ?_
      refine xgf w2.1 rfl ?_
      refine pk_le 2 L (fun z => ?_) (fun z => ?_)
      · rw [if_neg (fun y => y.elim (fun y => by omega) (fun y => y ho))] at hX
        refine up_loop (P := fun i => (∀ j, j < i → wt ω j - 97 < L) → xAt (h.1, h.2.1) g_Mo_readsFirst Q 104 [(0, .ref B), (2, .int (nI i))] [] k2) L (fun hall => ?_) (fun i hi ih hall => ?_) 0 (Nat.zero_le _) (fun j hj => absurd hj (Nat.not_lt_zero j))
        · rw [if_neg (fun z => by
            have hy := sr_yes (fun k => decide (L ≤ wt ω k - 97)) L 0 (by omega)
            have := hall _ z
            have := of_decide_eq_true hy
            omega)] at hX
          subst hX
          refine xgoal [(104, [0, 2])] 100 ok_Mo_readsFirst ?_
          refine xgf w2.1 rfl ?_
          refine pk_le L L (fun _ => ?_) (fun z => absurd z (by omega))
          refine xgf w2.1 rfl ?_
          refine xal g2 rfl (show 0 < 130 by omega) (by decide) ?_
          have fr3 : frm k2 (xset k2 (B + 8) (xia 130 (upd M1 0 (nI 1)))) (B + 8) (B + 8 + 1) := frm_set frm_rf (by omega) (by omega)
          have w3 := w2.sc (c := 8) fr3 (by omega) ⟨_, xat_sf g2.1⟩
          refine ⟨Or.inr rfl, hQ _ _ ⟨⟨rfl, w3, _, xat_sf g2.1, ?_⟩, frm_tr fr2 fr3 (by omega) (by omega)⟩⟩
          refine ⟨by unfold upd; rw [if_pos rfl]; rfl, fun s hs i hi => ?_, fun x h3 h4 => by unfold upd; rw [if_neg (by omega)]; exact h2 x (by omega) (by omega), by unfold upd; rw [if_neg (by omega)]; exact h2 113 (by omega) (by omega), fun l hl => absurd hl (Nat.not_lt_zero l), fun l hl => absurd hl (Nat.not_lt_zero l)⟩
          have hs : s < 1 := hs
          have : s = 0 := by omega
          subst this
          unfold upd
          rw [if_neg (by omega), Nat.mul_zero, Nat.add_zero, h1 i hi]
          show _ = nI ((if 0 = pc pv0 then ltr (wt ω) 0 else pst pv0 0) i)
          rw [if_pos (show 0 = pc pv0 from rfl)]
          unfold ltr
          rw [Nat.zero_add]
        · have hl7 := wlb_in (hlt i hi)
          rw [Nat.zero_add] at hl7
          refine xgoal [(104, [0, 2])] 100 ok_Mo_readsFirst ?_
          refine xgf w2.1 rfl ?_
          refine pk_le L i (fun z => absurd z (by omega)) (fun _ => ?_)
          refine xgf w2.1 rfl ?_
          refine xal g2 (nI_add 1 i) (show 1 + i < 130 by omega) (by decide) ?_
          refine xgf w2.1 rfl ?_
          refine pk_lt (wt ω i - 97) L (fun z => ?_) (fun z => ?_) (h1 i hi) rfl
          · have ih := ih (fun j hj => by
              by_cases e : j = i
              · rw [e]; exact z
              · exact hall j (by omega))
            rw [← nI_1 i] at ih
            exact ih
          · have hs : sr (fun k => decide (L ≤ wt ω k - 97)) L 0 = i := sr_at (Nat.zero_le _) (by omega) (decide_eq_true z) (fun j _ hj => decide_eq_false (by have := hall j hj; omega))
            rw [hs, if_pos hi] at hX
            refine xpf w2.1 (Nat.le_of_ble_eq_true rfl) rfl ?_
            exact ⟨Or.inl rfl, stop _ i _ (frm_set fr2 (Nat.le_refl _) (by omega)) (w2.ob l (nI L) (nI i)) hX.symm⟩
      · rw [if_pos (Or.inl z)] at hX
        exact ⟨Or.inl rfl, stop k2 L _ fr2 w2 hX.symm⟩
    refine xgoal [(92, [0])] 100 ok_Mo_readsFirst ?_
    refine xgf w1.1 rfl ?_
    refine xpf w1.1 (Nat.le_of_ble_eq_true rfl) rfl ?_
    rw [← hk2] at w2 at92
    have at92' := at92
    refine xgf w2.1 rfl ?_
    refine xci (sp_Mo_byteAt (x := L) w2.2 hT (by omega)) ?_
    have oc := over_c (k := L) hb
    refine And.intro (fun z => at92' (oc.mpr (Or.inl z))) (fun z1 => ?_)
    refine And.intro (fun z => at92' (oc.mpr (Or.inr (Or.inl z)))) (fun z2 => ?_)
    refine And.intro (fun z => at92' (oc.mpr (Or.inr (Or.inr z)))) (fun z3 => ?_)
    rw [if_pos (Or.inr (fun y => (oc.mp y).elim z1 (fun y => y.elim z2 z3)))] at hX
    rw [← hk2] at fr2
    exact ⟨Or.inl rfl, stop _ L _ fr2 w2 hX.symm⟩
  refine up_loop (P := fun j => ∀ (k1 : xHp) (m : Int32) (M1 : Nat → Int32), frm h k1 B (B + 14) → isMO k1 B ω F tx l m (nI j) → xat k1 (B + 8) (xia 130 M1) → (∀ i, i < j → M1 (1 + i) = nI (wt ω i - 97)) → (∀ x, x < 130 → 1 + j ≤ x → M1 x = nI 0) → L = sr (fun j => !wlb (wT ω) (wt ω) 7 (0 + j)) (7 - j) j → xAt (h.1, h.2.1) g_Mo_readsFirst Q 0 [(0, .ref B)] [] k1) 7 ?_ (fun j hj ih => ?_) 0 (Nat.zero_le _) h m M frm_rf w hM (fun i hi => absurd hi (Nat.not_lt_zero i)) (fun x hx _ => hz x hx) hL.symm
  · intro k1 m M1 fr1 w1 g1 h1 h2 he
    have he : L = 7 := he
    subst he
    refine xgoal [(57, [0])] 100 ok_Mo_readsFirst ?_
    refine xgf w1.1 rfl ?_
    exact pk_le 7 7 (fun _ => at57 k1 m M1 fr1 w1 g1 h1 h2) (fun z => absurd z (by omega))
  · intro k1 m M1 fr1 w1 g1 h1 h2 he
    rw [show 7 - j = (7 - (j + 1)) + 1 by omega] at he
    unfold sr at he
    rw [Nat.zero_add] at he
    refine xgoal [(0, [0]), (57, [0])] 100 ok_Mo_readsFirst ?_
    refine xgf w1.1 rfl ?_
    refine pk_le 7 j (fun z => absurd z (by omega)) (fun _ => ?_)
    refine xgf w1.1 rfl ?_
    refine xci (sp_Mo_isLetter (x := j) (m := 7) w1.2 hb (by omega) (by omega) (by omega)) ?_
    by_cases cl : wlb (wT ω) (wt ω) 7 j = true
    · rw [if_neg (by simp [cl])] at he
      obtain ⟨q1, q2, q3⟩ := wlb_in cl
      refine pk_eq 1 0 (fun z => absurd z (by omega)) (fun _ => ?_) (by rw [if_pos cl]) rfl
      refine xgf w1.1 rfl ?_
      refine xgf w1.1 rfl ?_
      refine xgf w1.1 rfl ?_
      have spb := sp_Mo_byteAt (x := j) w1.2 hT (by omega)
      rw [show tI (wT ω) (wt ω) j = nI (wt ω j) from if_pos q1] at spb
      refine xci spb ?_
      refine xal g1 (nI_add 1 j) (show 1 + j < 130 by omega) (by decide) ?_
      have fr3 : frm k1 (xset k1 (B + 8) (xia 130 (upd M1 (1 + j) (nI (wt ω j) - nI 97)))) (B + 8) (B + 8 + 1) := frm_set frm_rf (by omega) (by omega)
      have w3 := w1.sc (c := 8) fr3 (by omega) ⟨_, xat_sf g1.1⟩
      refine xgf w3.1 rfl ?_
      refine xpf w3.1 (Nat.le_of_ble_eq_true rfl) rfl ?_
      have w4 := w3.ob l m (nI j + nI 1)
      rw [nI_add] at w4
      have ih := ih _ m _ (frm_set (frm_tr fr1 fr3 (by omega) (by omega)) (Nat.le_refl _) (by omega)) w4 (xat_set (xat_sf g1.1) (by omega)) (fun i hi => by
        unfold upd
        by_cases e : i = j
        · rw [if_pos (by omega), e, pk_sub q2]
        · rw [if_neg (by omega)]; exact h1 i (by omega)) (fun x hx hx2 => by unfold upd; rw [if_neg (by omega)]; exact h2 x hx (by omega)) he
      rw [← nI_add] at ih
      exact ih
    · rw [if_pos (by simp [cl])] at he
      subst he
      exact pk_eq 0 0 (fun _ => at57 k1 m M1 fr1 w1 g1 h1 h2) (fun z => absurd rfl z) (by rw [if_neg cl]) rfl
theorem sp_Mo_readsStanza {h : xHp} {B n pos : Nat} {p : Pv} {ω : Wv} {F tx : Nat → Int32} {l : Int32} (w : isMO h B ω F tx l (nI n) (nI pos)) (hb : bok (wT ω) (wt ω)) (hn1 : 1 ≤ n) (hn : n ≤ 7) (hM : isMd h B n p) (hc : pc p ≤ 8) (hpos : pos < wT ω) : SpecR g_Mo_readsStanza [.ref B] h (fun v h' => (if pc p = 8 then v = some (.int (nI 0)) ∧ isMO h' B ω F tx l (nI n) (nI pos) else if wct (wT ω) (wt ω) n n (pos + 1) < n then v = some (.int (nI 0)) ∧ isMO h' B ω F tx l (nI n) (nI (pos + 1 + wct (wT ω) (wt ω) n n (pos + 1)))
      else isMO h' B ω F tx l (nI n) (nI (pos + 1 + n)) ∧ isMd h' B n (padd p (ltr (wt ω) (pos + 1))) ∧ v = some (.int (nI (if over (wT ω) (wt ω) (pos + 1 + n) = true then 1 else 0)))) ∧ frm h h' B (B + 14)) := by
  obtain ⟨fs, hrc⟩ := bM_rc w.2.b
  have hT := hb.1
  obtain ⟨M, g0, hm⟩ := hM
  have hwT := wct_T (T := wT ω) (t := wt ω) (m := n) (k := n) (pos := pos + 1) (by omega)
  have hwn := wct_le (wT ω) (wt ω) n n (pos + 1)
  generalize hW : wct (wT ω) (wt ω) n n (pos + 1) = W at hwT hwn
  refine SpecR.of (by decide +kernel) (Nat.le_of_ble_eq_true rfl) (fun c hc => by cases hc; exact ⟨_, _, _, rfl, hrc⟩) (fun v h' z => ⟨?_, z.2.1, z.2.2.1⟩) (fun Q hQ => ?_)
  · have z := z.1
    split at z
    · exact ⟨_, z.1⟩
    · split at z
      · exact ⟨_, z.1⟩
      · exact ⟨_, z.2.2⟩
  refine xgoal [(25, [0, 1])] 100 ok_Mo_readsStanza ?_
  refine xgf w.1 rfl ?_
  refine xal g0 rfl (show 0 < 130 by omega) (by decide) ?_
  refine pk_eq (pc p) 8 (fun c8 => ?_) (fun c8 => ?_) hm.1 rfl
  · simp only [if_pos c8] at hQ
    exact ⟨Or.inl rfl, hQ _ _ ⟨⟨rfl, w⟩, frm_rf⟩⟩
  simp only [if_neg c8] at hQ
  refine xgf w.1 rfl ?_
  refine xpf w.1 (Nat.le_of_ble_eq_true rfl) rfl ?_
  have w1 := w.ob l (nI n) (nI pos + nI 1)
  rw [nI_add] at w1
  have key := up_loop (P := fun j => ∀ (k1 : xHp) (M1 : Nat → Int32), frm h k1 B (B + 14) → isMO k1 B ω F tx l (nI n) (nI (pos + 1 + j)) → xat k1 (B + 8) (xia 130 M1) → mdP M1 n p → (∀ i, i < j → M1 (1 + 7 * pc p + i) = nI (ltr (wt ω) (pos + 1) i)) → W = sr (fun j => !wlb (wT ω) (wt ω) n (pos + 1 + j)) (n - j) j → xAt (h.1, h.2.1) g_Mo_readsStanza Q 25 [(0, .ref B), (1, .int (nI j))] [] k1) n ?_ (fun j hj ih => ?_) 0 (Nat.zero_le _)
  · have := key (xset h B (obM B (nI ω.2.1.length) (nI (wT ω)) l (nI n) (nI (pos + 1)))) M (frm_set frm_rf (Nat.le_refl _) (by omega)) w1 (xat_set g0 (by omega)) hm (fun i hi => absurd hi (Nat.not_lt_zero i)) hW.symm
    rw [← nI_add] at this
    exact this
  · intro k1 M1 fr1 w1 g1 hm1 h1 he
    rw [Nat.sub_self] at he
    have he : W = n := he
    simp only [he, if_neg (Nat.lt_irrefl n)] at hQ
    obtain ⟨m1, m2, m3, m4, m5, m6⟩ := hm1
    refine xgoal [(25, [0, 1])] 100 ok_Mo_readsStanza ?_
    refine xgf w1.1 rfl ?_
    refine pk_le n n (fun _ => ?_) (fun z => absurd z (by omega))
    refine xgf w1.1 rfl ?_
    refine xal g1 rfl (show 0 < 130 by omega) (by decide) ?_
    refine xal g1 rfl (show 0 < 130 by omega) (by decide) ?_
    have fr3 : frm k1 (xset k1 (B + 8) (xia 130 (upd M1 0 (M1 0 + nI 1)))) (B + 8) (B + 8 + 1) := frm_set frm_rf (by omega) (by omega)
    have w3 := w1.sc (c := 8) fr3 (by omega) ⟨_, xat_sf g1.1⟩
    have hd : isMd (xset k1 (B + 8) (xia 130 (upd M1 0 (M1 0 + nI 1)))) B n (padd p (ltr (wt ω) (pos + 1))) := ⟨_, xat_sf g1.1, by unfold upd; rw [if_pos rfl, m1, nI_add]; rfl, fun s hs i hi => by
      have hs : s < pc p + 1 := hs
      unfold upd
      rw [if_neg (by omega)]
      show _ = nI ((if s = pc p then ltr (wt ω) (pos + 1) else pst p s) i)
      by_cases e : s = pc p
      · rw [if_pos e, e]; exact h1 i hi
      · rw [if_neg e]; exact m2 s (by omega) i hi, fun x h3 h4 => by unfold upd; rw [if_neg (by omega)]; exact m3 x h3 h4, by unfold upd; rw [if_neg (by omega)]; exact m4, fun l hl => by unfold upd; rw [if_neg (by omega)]; exact m5 l hl, fun l hl k hk => by unfold upd; rw [if_neg (by omega)]; exact m6 l hl k hk⟩
    refine xgf w3.1 rfl ?_
    refine xci (sp_Mo_byteAt (x := pos + 1 + n) w3.2 hT (by omega)) ?_
    have oc := over_c (k := pos + 1 + n) hb
    have fr4 := frm_tr fr1 fr3 (by omega) (by omega)
    have yes : over (wT ω) (wt ω) (pos + 1 + n) = true → Q (some (.int (nI 1))) (xset k1 (B + 8) (xia 130 (upd M1 0 (M1 0 + nI 1)))) := fun ho => hQ _ _ ⟨⟨w3, hd, by rw [if_pos ho]⟩, fr4⟩
    refine And.intro (fun z => ⟨Or.inr rfl, yes (oc.mpr (Or.inl z))⟩) (fun z1 => ?_)
    refine And.intro (fun z => ⟨Or.inr rfl, yes (oc.mpr (Or.inr (Or.inl z)))⟩) (fun z2 => ?_)
    refine And.intro (fun z => ⟨Or.inr rfl, yes (oc.mpr (Or.inr (Or.inr z)))⟩) (fun z3 => ?_)
    exact ⟨Or.inl rfl, hQ _ _ ⟨⟨w3, hd, by rw [if_neg (fun y => (oc.mp y).elim z1 (fun y => y.elim z2 z3))]⟩, fr4⟩⟩
  · intro k1 M1 fr1 w1 g1 hm1 h1 he
    rw [show n - j = (n - (j + 1)) + 1 by omega] at he
    unfold sr at he
    have hm1' := hm1
    obtain ⟨m1, m2, m3, m4, m5, m6⟩ := hm1'
    refine xgoal [(25, [0, 1])] 100 ok_Mo_readsStanza ?_
    refine xgf w1.1 rfl ?_
    refine pk_le n j (fun z => absurd z (by omega)) (fun _ => ?_)
    refine xgf w1.1 rfl ?_
    refine xgf w1.1 rfl ?_
    refine xci (sp_Mo_isLetter (x := pos + 1 + j) (m := n) w1.2 hb (by omega) hn1 hn) ?_
    by_cases cl : wlb (wT ω) (wt ω) n (pos + 1 + j) = true
    · rw [if_neg (by simp [cl])] at he
      obtain ⟨q1, q2, q3⟩ := wlb_in cl
      refine pk_eq 1 0 (fun z => absurd z (by omega)) (fun _ => ?_) (by rw [if_pos cl]) rfl
      refine xgf w1.1 rfl ?_
      refine xgf w1.1 rfl ?_
      refine xal g1 rfl (show 0 < 130 by omega) (by decide) ?_
      refine xgf w1.1 rfl ?_
      have spb := sp_Mo_byteAt (x := pos + 1 + j) w1.2 hT (by omega)
      rw [show tI (wT ω) (wt ω) (pos + 1 + j) = nI (wt ω (pos + 1 + j)) from if_pos q1] at spb
      refine xci spb ?_
      have ei : nI 1 + nI 7 * M1 0 + nI j = nI (1 + 7 * pc p + j) := by rw [m1, n_mul, nI_add, nI_add]
      refine xal g1 ei (show 1 + 7 * pc p + j < 130 by omega) (by decide) ?_
      have fr3 : frm k1 (xset k1 (B + 8) (xia 130 (upd M1 (1 + 7 * pc p + j) (nI (wt ω (pos + 1 + j)) - nI 97)))) (B + 8) (B + 8 + 1) := frm_set frm_rf (by omega) (by omega)
      have w3 := w1.sc (c := 8) fr3 (by omega) ⟨_, xat_sf g1.1⟩
      refine xgf w3.1 rfl ?_
      refine xpf w3.1 (Nat.le_of_ble_eq_true rfl) rfl ?_
      have w4 := w3.ob l (nI n) (nI (pos + 1 + j) + nI 1)
      rw [nI_add] at w4
      have hu : ∀ x, x ≠ 1 + 7 * pc p + j → upd M1 (1 + 7 * pc p + j) (nI (wt ω (pos + 1 + j)) - nI 97) x = M1 x := fun x hx => by unfold upd; rw [if_neg hx]
      have ih := ih _ _ (frm_set (frm_tr fr1 fr3 (by omega) (by omega)) (Nat.le_refl _) (by omega)) w4 (xat_set (xat_sf g1.1) (by omega)) ⟨(hu 0 (by omega)).trans m1, fun s hs i hi => (hu _ (by omega)).trans (m2 s hs i hi), fun x h3 h4 => (hu x (by omega)).trans (m3 x h3 h4), (hu _ (by omega)).trans m4, fun l hl => (hu _ (by omega)).trans (m5 l hl), fun l hl k hk => (hu _ (by omega)).trans (m6 l hl k hk)⟩ (fun i hi => by
        by_cases e : i = j
        · rw [e]; unfold upd; rw [if_pos rfl, pk_sub q2]; rfl
        · rw [hu _ (by omega)]; exact h1 i (by omega)) he
      rw [← nI_add (pos + 1 + j) 1, ← nI_1 j] at ih
      exact ih
    · rw [if_pos (by simp [cl])] at he
      refine pk_eq 0 0 (fun _ => ?_) (fun z => absurd rfl z) (by rw [if_neg cl]) rfl
      simp only [he, if_pos hj] at hQ
      exact ⟨Or.inl rfl, hQ _ _ ⟨⟨rfl, w1⟩, fr1⟩⟩
theorem sp_Mo_readsTail {h : xHp} {B n pos : Nat} {p : Pv} {ω : Wv} {F tx : Nat → Int32} {l : Int32} (w : isMO h B ω F tx l (nI n) (nI pos)) (hb : bok (wT ω) (wt ω)) (hn1 : 1 ≤ n) (hn : n ≤ 7) (hM : isMd h B n p) (hc : ptl p ≤ 4) (h3 : ∀ l, l < ptl p → ptn p l ≤ 3) (hc8 : pc p ≤ 8) (hpos : pos < wT ω) : SpecR g_Mo_readsTail [.ref B] h (fun v h' => (if ptl p = 4 then v = some (.int (nI 0)) ∧ isMO h' B ω F tx l (nI n) (nI pos) else isMO h' B ω F tx l (nI n) (nI (pos + 1 + wct (wT ω) (wt ω) n 3 (pos + 1))) ∧ isMd h' B n (ptadd p (wct (wT ω) (wt ω) n 3 (pos + 1)) (ltr (wt ω) (pos + 1))) ∧
      v = some (.int (nI (if wct (wT ω) (wt ω) n 3 (pos + 1) ≠ 0 ∧ (tb (wT ω) (wt ω) (pos + 1 + wct (wT ω) (wt ω) n 3 (pos + 1)) = 0 ∨ tb (wT ω) (wt ω) (pos + 1 + wct (wT ω) (wt ω) n 3 (pos + 1)) = 44) then 1 else 0)))) ∧ frm h h' B (B + 14)) := by
  obtain ⟨fs, hrc⟩ := bM_rc w.2.b
  have hT := hb.1
  obtain ⟨M, g0, hm⟩ := hM
  have hwT := wct_T (T := wT ω) (t := wt ω) (m := n) (k := 3) (pos := pos + 1) (by omega)
  have hw3 := wct_le (wT ω) (wt ω) n 3 (pos + 1)
  generalize hW : wct (wT ω) (wt ω) n 3 (pos + 1) = W at hwT hw3
  refine SpecR.of (by decide +kernel) (Nat.le_of_ble_eq_true rfl) (fun c hc => by cases hc; exact ⟨_, _, _, rfl, hrc⟩) (fun v h' z => ⟨?_, z.2.1, z.2.2.1⟩) (fun Q hQ => ?_)
  · have z := z.1
    split at z
    · exact ⟨_, z.1⟩
    · exact ⟨_, z.2.2⟩
  refine xgoal [(27, [0, 1, 2])] 100 ok_Mo_readsTail ?_
  refine xgf w.1 rfl ?_
  refine xal g0 rfl (show 113 < 130 by omega) (by decide) ?_
  refine pk_eq (ptl p) 4 (fun c8 => ?_) (fun c8 => ?_) hm.2.2.2.1 rfl
  · simp only [if_pos c8] at hQ
    exact ⟨Or.inl rfl, hQ _ _ ⟨⟨rfl, w⟩, frm_rf⟩⟩
  simp only [if_neg c8] at hQ
  refine xgf w.1 rfl ?_
  refine xpf w.1 (Nat.le_of_ble_eq_true rfl) rfl ?_
  have w1 := w.ob l (nI n) (nI pos + nI 1)
  rw [nI_add] at w1
  have at92 : ∀ (k1 : xHp) (M1 : Nat → Int32), frm h k1 B (B + 14) → isMO k1 B ω F tx l (nI n) (nI (pos + 1 + W)) → xat k1 (B + 8) (xia 130 M1) → mdP M1 n p → (∀ i, i < W → M1 (118 + 3 * ptl p + i) = nI (ltr (wt ω) (pos + 1) i)) → xAt (h.1, h.2.1) g_Mo_readsTail Q 92 [(0, .ref B), (1, .int (nI 113)), (2, .int (nI W))] [] k1 := by
    intro k1 M1 fr1 w1 g1 hm1 h1
    obtain ⟨m1, m2, m3, m4, m5, m6⟩ := hm1
    refine xgoal [] 100 ok_Mo_readsTail ?_
    refine xgf w1.1 rfl ?_
    refine xgf w1.1 rfl ?_
    refine xal g1 rfl (show 113 < 130 by omega) (by decide) ?_
    have ei : nI 114 + M1 113 = nI (114 + ptl p) := by rw [m4, nI_add]
    refine xal g1 ei (show 114 + ptl p < 130 by omega) (by decide) ?_
    have fr3 : frm k1 (xset k1 (B + 8) (xia 130 (upd M1 (114 + ptl p) (nI W)))) (B + 8) (B + 8 + 1) := frm_set frm_rf (by omega) (by omega)
    have w3 := w1.sc (c := 8) fr3 (by omega) ⟨_, xat_sf g1.1⟩
    refine xgf w3.1 rfl ?_
    have g3 : xat (xset k1 (B + 8) (xia 130 (upd M1 (114 + ptl p) (nI W)))) (B + 8) (xia 130 (upd M1 (114 + ptl p) (nI W))) := xat_sf g1.1
    refine xal g3 rfl (show 113 < 130 by omega) (by decide) ?_
    refine xal g3 rfl (show 113 < 130 by omega) (by decide) ?_
    have e113 : upd M1 (114 + ptl p) (nI W) 113 = nI (ptl p) := by unfold upd; rw [if_neg (by omega)]; exact m4
    have fr4 : frm (xset k1 (B + 8) (xia 130 (upd M1 (114 + ptl p) (nI W)))) (xset (xset k1 (B + 8) (xia 130 (upd M1 (114 + ptl p) (nI W)))) (B + 8) (xia 130 (upd (upd M1 (114 + ptl p) (nI W)) 113 (upd M1 (114 + ptl p) (nI W) 113 + nI 1)))) (B + 8) (B + 8 + 1) := frm_set frm_rf (by omega) (by omega)
    have w4 := w3.sc (c := 8) fr4 (by omega) ⟨_, xat_sf g3.1⟩
    have hd : isMd (xset (xset k1 (B + 8) (xia 130 (upd M1 (114 + ptl p) (nI W)))) (B + 8) (xia 130 (upd (upd M1 (114 + ptl p) (nI W)) 113 (upd M1 (114 + ptl p) (nI W) 113 + nI 1)))) B n (ptadd p W (ltr (wt ω) (pos + 1))) := by
      have hu : ∀ x, x ≠ 113 → x ≠ 114 + ptl p → upd (upd M1 (114 + ptl p) (nI W)) 113 (upd M1 (114 + ptl p) (nI W) 113 + nI 1) x = M1 x := fun x h1 h2 => by
        show (if x = 113 then _ else if x = 114 + ptl p then _ else M1 x) = M1 x
        rw [if_neg h1, if_neg h2]
      refine ⟨_, xat_sf g3.1, (hu 0 (by omega) (by omega)).trans m1, fun s hs i hi => (hu _ (by have : s < pc p := hs; omega) (by have : s < pc p := hs; omega)).trans (m2 s hs i hi), fun x h3 h4 => (hu x (by omega) (by omega)).trans (m3 x h3 h4), ?_, fun q hq => ?_, fun q hq i hi => ?_⟩
      · show (if 113 = 113 then upd M1 (114 + ptl p) (nI W) 113 + nI 1 else _) = nI (ptl p + 1)
        rw [if_pos rfl, e113, nI_add]
      · have hq : q < ptl p + 1 := hq
        show _ = nI (if q = ptl p then W else ptn p q)
        by_cases e : q = ptl p
        · rw [if_pos e, e]
          show (if 114 + ptl p = 113 then _ else if 114 + ptl p = 114 + ptl p then nI W else _) = nI W
          rw [if_neg (by omega), if_pos rfl]
        · rw [if_neg e]; exact (hu _ (by omega) (by omega)).trans (m5 q (by omega))
      · have hq : q < ptl p + 1 := hq
        have hi : i < (if q = ptl p then W else ptn p q) := hi
        show _ = nI ((if q = ptl p then ltr (wt ω) (pos + 1) else ptw p q) i)
        by_cases e : q = ptl p
        · rw [if_pos e] at hi ⊢
          rw [e]
          exact (hu _ (by omega) (by omega)).trans (h1 i hi)
        · rw [if_neg e] at hi ⊢
          exact (hu _ (by omega) (by omega)).trans (m6 q (by omega) i hi)
    have fr5 := frm_tr (frm_tr fr1 fr3 (by omega) (by omega)) fr4 (by omega) (by omega)
    generalize hk9 : xset (xset k1 (B + 8) (xia 130 (upd M1 (114 + ptl p) (nI W)))) (B + 8) (xia 130 (upd (upd M1 (114 + ptl p) (nI W)) 113 (upd M1 (114 + ptl p) (nI W) 113 + nI 1))) = k9 at w4 hd fr5
    have hQ2 := fun v => hQ v k9
    have yes : W ≠ 0 ∧ (tb (wT ω) (wt ω) (pos + 1 + W) = 0 ∨ tb (wT ω) (wt ω) (pos + 1 + W) = 44) → Q (some (.int (nI 1))) k9 := fun z => hQ2 _ ⟨⟨w4, hd, by rw [if_pos z]⟩, fr5⟩
    have no : ¬ (W ≠ 0 ∧ (tb (wT ω) (wt ω) (pos + 1 + W) = 0 ∨ tb (wT ω) (wt ω) (pos + 1 + W) = 44)) → Q (some (.int (nI 0))) k9 := fun z => hQ2 _ ⟨⟨w4, hd, by rw [if_neg z]⟩, fr5⟩
    refine pk_le W 0 (fun z => ⟨Or.inl rfl, no (fun y => by omega)⟩) (fun z => ?_)
    refine xgf w4.1 rfl ?_
    refine xci (sp_Mo_byteAt (x := pos + 1 + W) w4.2 hT (by omega)) ?_
    refine And.intro (fun y => ⟨Or.inr rfl, yes ⟨by omega, Or.inl ((tI_e hb).mp y)⟩⟩) (fun y1 => ?_)
    refine xgf w4.1 rfl ?_
    refine xci (sp_Mo_byteAt (x := pos + 1 + W) w4.2 hT (by omega)) ?_
    refine And.intro (fun y => ⟨Or.inr rfl, yes ⟨by omega, Or.inr ((tI_c hb (by omega) (by omega)).mp y)⟩⟩) (fun y2 => ?_)
    exact ⟨Or.inl rfl, no (fun y => y.2.elim (fun q => y1 ((tI_e hb).mpr q)) (fun q => y2 ((tI_c hb (by omega) (by omega)).mpr q)))⟩
  have key := up_loop (P := fun j => ∀ (k1 : xHp) (M1 : Nat → Int32), frm h k1 B (B + 14) → isMO k1 B ω F tx l (nI n) (nI (pos + 1 + j)) → xat k1 (B + 8) (xia 130 M1) → mdP M1 n p → (∀ i, i < j → M1 (118 + 3 * ptl p + i) = nI (ltr (wt ω) (pos + 1) i)) → W = sr (fun j => !wlb (wT ω) (wt ω) n (pos + 1 + j)) (3 - j) j → xAt (h.1, h.2.1) g_Mo_readsTail Q 27 [(0, .ref B), (1, .int (nI 113)), (2, .int (nI j))] [] k1) 3 ?_ (fun j hj ih => ?_) 0 (Nat.zero_le _)
  · have := key (xset h B (obM B (nI ω.2.1.length) (nI (wT ω)) l (nI n) (nI (pos + 1)))) M (frm_set frm_rf (Nat.le_refl _) (by omega)) w1 (xat_set g0 (by omega)) hm (fun i hi => absurd hi (Nat.not_lt_zero i)) hW.symm
    rw [← nI_add] at this
    exact this
  · intro k1 M1 fr1 w1 g1 hm1 h1 he
    have he : W = 3 := he
    subst he
    refine xgoal [(92, [0, 1, 2])] 100 ok_Mo_readsTail ?_
    exact pk_le 3 3 (fun _ => at92 k1 M1 fr1 w1 g1 hm1 h1) (fun z => absurd z (by omega))
  · intro k1 M1 fr1 w1 g1 hm1 h1 he
    rw [show 3 - j = (3 - (j + 1)) + 1 by omega] at he
    unfold sr at he
    have hm1' := hm1
    obtain ⟨m1, m2, m3, m4, m5, m6⟩ := hm1'
    refine xgoal [(27, [0, 1, 2]), (92, [0, 1, 2])] 100 ok_Mo_readsTail ?_
    refine pk_le 3 j (fun z => absurd z (by omega)) (fun _ => ?_)
    refine xgf w1.1 rfl ?_
    refine xgf w1.1 rfl ?_
    refine xci (sp_Mo_isLetter (x := pos + 1 + j) (m := n) w1.2 hb (by omega) hn1 hn) ?_
    by_cases cl : wlb (wT ω) (wt ω) n (pos + 1 + j) = true
    · rw [if_neg (by simp [cl])] at he
      obtain ⟨q1, q2, q3⟩ := wlb_in cl
      refine pk_eq 1 0 (fun z => absurd z (by omega)) (fun _ => ?_) (by rw [if_pos cl]) rfl
      refine xgf w1.1 rfl ?_
      refine xgf w1.1 rfl ?_
      refine xal g1 rfl (show 113 < 130 by omega) (by decide) ?_
      refine xgf w1.1 rfl ?_
      have spb := sp_Mo_byteAt (x := pos + 1 + j) w1.2 hT (by omega)
      rw [show tI (wT ω) (wt ω) (pos + 1 + j) = nI (wt ω (pos + 1 + j)) from if_pos q1] at spb
      refine xci spb ?_
      have ei : nI 118 + nI 3 * M1 113 + nI j = nI (118 + 3 * ptl p + j) := by rw [m4, n_mul, nI_add, nI_add]
      refine xal g1 ei (show 118 + 3 * ptl p + j < 130 by omega) (by decide) ?_
      have fr3 : frm k1 (xset k1 (B + 8) (xia 130 (upd M1 (118 + 3 * ptl p + j) (nI (wt ω (pos + 1 + j)) - nI 97)))) (B + 8) (B + 8 + 1) := frm_set frm_rf (by omega) (by omega)
      have w3 := w1.sc (c := 8) fr3 (by omega) ⟨_, xat_sf g1.1⟩
      refine xgf w3.1 rfl ?_
      refine xpf w3.1 (Nat.le_of_ble_eq_true rfl) rfl ?_
      have w4 := w3.ob l (nI n) (nI (pos + 1 + j) + nI 1)
      rw [nI_add] at w4
      have hu : ∀ x, x ≠ 118 + 3 * ptl p + j → upd M1 (118 + 3 * ptl p + j) (nI (wt ω (pos + 1 + j)) - nI 97) x = M1 x := fun x hx => by unfold upd; rw [if_neg hx]
      have ih := ih _ _ (frm_set (frm_tr fr1 fr3 (by omega) (by omega)) (Nat.le_refl _) (by omega)) w4 (xat_set (xat_sf g1.1) (by omega)) ⟨(hu 0 (by omega)).trans m1, fun s hs i hi => (hu _ (by omega)).trans (m2 s hs i hi), fun x h3 h4 => (hu x (by omega)).trans (m3 x h3 h4), (hu _ (by omega)).trans m4, fun l hl => (hu _ (by omega)).trans (m5 l hl), fun l hl k hk => (hu _ (by have := h3 l hl; omega)).trans (m6 l hl k hk)⟩ (fun i hi => by
        by_cases e : i = j
        · rw [e]; unfold upd; rw [if_pos rfl, pk_sub q2]; rfl
        · rw [hu _ (by omega)]; exact h1 i (by omega)) he
      rw [← nI_add (pos + 1 + j) 1, ← nI_1 j] at ih
      exact ih
    · rw [if_pos (by simp [cl])] at he
      subst he
      exact pk_eq 0 0 (fun _ => at92 k1 M1 fr1 w1 g1 hm1 h1) (fun z => absurd rfl z) (by rw [if_neg cl]) rfl
theorem pread_lk {T n : Nat} {t : Nat → Nat} {p : Pv} (e : pread T t = .inr (n, p)) : ∀ s, plk p s = 0 := by
  have ha : ∀ (p : Pv) (f : Nat → Nat), (∀ s, plk p s = 0) → ∀ s, plk (padd p f) s = 0 := fun p f h s => by
    show (if s = pc p then 0 else plk p s) = 0
    split
    · rfl
    · exact h s
  have h1 : ∀ (k pos : Nat) (p : Pv) (pos' : Nat) (p' : Pv), (∀ s, plk p s = 0) → pstz T t n k pos p = .inr (pos', p') → ∀ s, plk p' s = 0 := by
    intro k
    induction k with
    | zero => intro pos p pos' p' h e; cases e; exact h
    | succ k ih =>
      intro pos p pos' p' h e
      unfold pstz at e
      split at e
      · split at e
        · cases e
        · split at e
          · exact ih _ _ _ _ (ha _ _ h) e
          · cases e
      · cases e; exact h
  have h2 : ∀ (k pos : Nat) (p : Pv) (pos' : Nat) (p' : Pv), (∀ s, plk p s = 0) → ptail T t n k pos p = .inr (pos', p') → ∀ s, plk p' s = 0 := by
    intro k
    induction k with
    | zero => intro pos p pos' p' h e; cases e; exact h
    | succ k ih =>
      intro pos p pos' p' h e
      unfold ptail at e
      split at e
      · cases e
      · split at e
        · exact ih _ (ptadd p (wct T t n 3 (pos + 1)) (ltr t (pos + 1))) _ _ h e
        · cases e; exact h
  unfold pread at e
  cases hf : pfirst T t with
  | inl f => rw [hf] at e; cases e
  | inr L =>
    rw [hf] at e
    have e : pfin T L (ptl4 T t L (pstz T t L 7 L (padd pv0 (ltr t 0)))) = .inr (n, p) := e
    cases hs : pstz T t L 7 L (padd pv0 (ltr t 0)) with
    | inl f => rw [hs] at e; have e : (.inl f : Nat ⊕ (Nat × Pv)) = .inr (n, p) := e; cases e
    | inr Z =>
      obtain ⟨pos, p1⟩ := Z
      rw [hs] at e
      have e : pfin T L (if tb T t pos = 59 then ptail T t L 4 pos p1 else .inr (pos, p1)) = .inr (n, p) := e
      split at e
      · cases ht : ptail T t L 4 pos p1 with
        | inl f => rw [ht] at e; have e : (.inl f : Nat ⊕ (Nat × Pv)) = .inr (n, p) := e; cases e
        | inr Z =>
          obtain ⟨pos2, p2⟩ := Z
          rw [ht] at e
          have e : (if pos2 < T then (.inl pos2 : Nat ⊕ (Nat × Pv)) else .inr (L, p2)) = .inr (n, p) := e
          split at e
          · cases e
          · cases e
            exact h2 _ _ _ _ _ (h1 _ _ _ _ _ (ha _ _ (fun _ => rfl)) hs) ht
      · have e : (if pos < T then (.inl pos : Nat ⊕ (Nat × Pv)) else .inr (L, p1)) = .inr (n, p) := e
        split at e
        · cases e
        · cases e
          exact h1 _ _ _ _ _ (ha _ _ (fun _ => rfl)) hs
theorem tb_in2 {T pos c : Nat} {t : Nat → Nat} (h : tb T t pos = c) (hc : c ≠ 0) : pos < T := by
  unfold tb at h
  by_cases z : pos < T
  · exact z
  · rw [if_neg z] at h; omega
theorem sp_Mo_reads {h : xHp} {B : Nat} {ω : Wv} {F tx : Nat → Int32} (w : isMF h B ω F tx) (hb : bok (wT ω) (wt ω)) : SpecR g_Mo_reads [.ref B] h (fun v h' => (match pread (wT ω) (wt ω) with | .inl f => v = some (.int (nI 0)) ∧ ∃ l m, isMO h' B ω F tx l m (nI f) | .inr (n, p) => v = some (.int (nI 1)) ∧ (∃ l s, isMO h' B ω F tx l (nI n) s) ∧ isMd h' B n p) ∧ frm h h' B (B + 14)) := by
  obtain ⟨fs, hrc⟩ := bM_rc w.b
  have hT := hb.1
  generalize hX : pread (wT ω) (wt ω) = X
  refine SpecR.of (by decide +kernel) (Nat.le_of_ble_eq_true rfl) (fun c hc => by cases hc; exact ⟨_, _, _, rfl, hrc⟩) (fun v h' z => ⟨?_, z.2.1, z.2.2.1⟩) (fun Q hQ => ?_)
  · have z := z.1
    split at z
    · exact ⟨_, z.1⟩
    · exact ⟨_, z.1⟩
  have stop : ∀ (k1 : xHp) (f : Nat) (l m : Int32), frm h k1 B (B + 14) → isMO k1 B ω F tx l m (nI f) → X = .inl f → Q (some (.int (nI 0))) k1 := fun k1 f l m fr w1 e => by
    rw [e] at hQ
    exact hQ _ _ ⟨⟨rfl, l, m, w1⟩, fr⟩
  have at57n : ∀ (k1 : xHp) (f : Nat) (l m : Int32), frm h k1 B (B + 14) → isMO k1 B ω F tx l m (nI f) → X = .inl f → xAt (h.1, h.2.1) g_Mo_reads Q 57 [(0, .ref B), (1, .int (nI 0))] [] k1 := fun k1 f l m fr w1 e => by
    refine xgoal [(57, [0, 1])] 100 ok_Mo_reads ?_
    exact pk_eq 0 0 (fun _ => ⟨Or.inl rfl, stop k1 f l m fr w1 e⟩) (fun z => absurd rfl z)
  -- the tail
  have at57 : ∀ (d : Nat) (n pos : Nat) (p : Pv) (k1 : xHp) (l : Int32), 1 ≤ n → n ≤ 7 → ptl p + d = 4 → (∀ l, l < ptl p → ptn p l ≤ 3) → pc p ≤ 8 → pos ≤ wT ω → frm h k1 B (B + 14) → isMO k1 B ω F tx l (nI n) (nI pos) → isMd k1 B n p → ((pos = wT ω ∧ X = .inr (n, p)) ∨ (pos < wT ω ∧ d ≠ 0 ∧ X = pfin (wT ω) n (ptail (wT ω) (wt ω) n d pos p)) ∨ (pos < wT ω ∧ d = 0 ∧ X = .inl pos)) → xAt (h.1, h.2.1) g_Mo_reads Q 57 [(0, .ref B), (1, .int (nI 1))] [] k1 := by
    intro d
    induction d with
    | zero =>
      intro n pos p k1 l hn1 hn hd h3 hc hpos fr1 w1 r1 hx
      refine xgoal [(57, [0, 1])] 100 ok_Mo_reads ?_
      refine pk_eq 1 0 (fun z => absurd z (by omega)) (fun _ => ?_)
      refine xgf w1.1 rfl ?_
      refine xgf w1.1 rfl ?_
      refine pk_le (wT ω) pos (fun z => ?_) (fun z => ?_)
      · have hx : X = .inr (n, p) := hx.elim (fun y => y.2) (fun y => y.elim (fun y => by omega) (fun y => by omega))
        rw [hx] at hQ
        exact ⟨Or.inr rfl, hQ _ _ ⟨⟨rfl, ⟨_, _, w1⟩, r1⟩, fr1⟩⟩
      · have hx : X = .inl pos := hx.elim (fun y => by omega) (fun y => y.elim (fun y => absurd rfl y.2.1) (fun y => y.2.2))
        refine xri (sp_Mo_readsTail w1 hb hn1 hn r1 (by omega) h3 hc z) ?_
        rintro v k2 ⟨hv, fr2⟩
        rw [if_pos (by omega)] at hv
        obtain ⟨e, w2⟩ := hv
        cases e
        exact at57n k2 pos _ _ (frm_tr fr1 fr2 (Nat.le_refl _) (Nat.le_refl _)) w2 hx
    | succ d ih =>
      intro n pos p k1 l hn1 hn hd h3 hc hpos fr1 w1 r1 hx
      refine xgoal [(57, [0, 1])] 100 ok_Mo_reads ?_
      refine pk_eq 1 0 (fun z => absurd z (by omega)) (fun _ => ?_)
      refine xgf w1.1 rfl ?_
      refine xgf w1.1 rfl ?_
      refine pk_le (wT ω) pos (fun z => ?_) (fun z => ?_)
      · have hx : X = .inr (n, p) := hx.elim (fun y => y.2) (fun y => y.elim (fun y => by omega) (fun y => by omega))
        rw [hx] at hQ
        exact ⟨Or.inr rfl, hQ _ _ ⟨⟨rfl, ⟨_, _, w1⟩, r1⟩, fr1⟩⟩
      · have hx : X = pfin (wT ω) n (ptail (wT ω) (wt ω) n (d + 1) pos p) := hx.elim (fun y => by omega) (fun y => y.elim (fun y => y.2.2) (fun y => by omega))
        unfold ptail at hx
        have hw3 := wct_le (wT ω) (wt ω) n 3 (pos + 1)
        have hwT := wct_T (T := wT ω) (t := wt ω) (m := n) (k := 3) (pos := pos + 1) (by omega)
        refine xri (sp_Mo_readsTail w1 hb hn1 hn r1 (by omega) h3 hc z) ?_
        rintro v k2 ⟨hv, fr2⟩
        have fr3 := frm_tr fr1 fr2 (Nat.le_refl _) (Nat.le_refl _)
        rw [if_neg (by omega)] at hv
        obtain ⟨w2, r2, e⟩ := hv
        generalize wct (wT ω) (wt ω) n 3 (pos + 1) = W at hx hw3 hwT w2 r2 e
        by_cases cw : W = 0
        · rw [if_pos cw] at hx
          rw [if_neg (fun y => y.1 cw)] at e
          cases e
          subst cw
          exact at57n k2 (pos + 1) _ _ fr3 w2 hx
        · rw [if_neg cw] at hx
          by_cases c0 : tb (wT ω) (wt ω) (pos + 1 + W) = 0
          · rw [if_pos ⟨cw, Or.inl c0⟩] at e
            cases e
            rw [if_neg (fun y => by omega)] at hx
            have hpe : ¬ pos + 1 + W < wT ω := fun y => by
              have := hb.2 _ y
              unfold tb at c0; rw [if_pos y] at c0; omega
            have hx : X = (if pos + 1 + W < wT ω then .inl (pos + 1 + W) else .inr (n, ptadd p W (ltr (wt ω) (pos + 1)))) := hx
            rw [if_neg hpe] at hx
            exact ih n (pos + 1 + W) (ptadd p W (ltr (wt ω) (pos + 1))) k2 l hn1 hn (by show ptl p + 1 + d = 4; omega) (fun q hq => by
              have hq : q < ptl p + 1 := hq
              show (if q = ptl p then W else ptn p q) ≤ 3
              split
              · exact hw3
              · exact h3 q (by omega)) hc (by omega) fr3 w2 r2 (Or.inl ⟨by omega, hx⟩)
          · by_cases c44 : tb (wT ω) (wt ω) (pos + 1 + W) = 44
            · rw [if_pos ⟨cw, Or.inr c44⟩] at e
              cases e
              have hlt := tb_in2 c44 (by omega)
              refine ih n (pos + 1 + W) (ptadd p W (ltr (wt ω) (pos + 1))) k2 l hn1 hn (by show ptl p + 1 + d = 4; omega) (fun q hq => by
                have hq : q < ptl p + 1 := hq
                show (if q = ptl p then W else ptn p q) ≤ 3
                split
                · exact hw3
                · exact h3 q (by omega)) hc (by omega) fr3 w2 r2 ?_
              by_cases cd : d = 0
              · rw [if_neg (fun y => y.1 cd)] at hx
                have hx : X = (if pos + 1 + W < wT ω then .inl (pos + 1 + W) else .inr (n, ptadd p W (ltr (wt ω) (pos + 1)))) := hx
                rw [if_pos hlt] at hx
                exact Or.inr (Or.inr ⟨hlt, cd, hx⟩)
              · rw [if_pos ⟨cd, c44⟩] at hx
                exact Or.inr (Or.inl ⟨hlt, cd, hx⟩)
            · rw [if_neg (fun y => y.2.elim c0 c44)] at e
              cases e
              rw [if_neg (fun y => c44 y.2)] at hx
              have hlt : pos + 1 + W < wT ω := by
                refine Nat.lt_of_not_le fun y => c0 ?_
                unfold tb; rw [if_neg (by omega)]
              have hx : X = (if pos + 1 + W < wT ω then .inl (pos + 1 + W) else .inr (n, ptadd p W (ltr (wt ω) (pos + 1)))) := hx
              rw [if_pos hlt] at hx
              exact at57n k2 (pos + 1 + W) _ _ fr3 w2 hx
  -- the stanzas
  have at32n : ∀ (k1 : xHp) (f : Nat) (l m : Int32), frm h k1 B (B + 14) → isMO k1 B ω F tx l m (nI f) → X = .inl f → xAt (h.1, h.2.1) g_Mo_reads Q 32 [(0, .ref B), (1, .int (nI 0))] [] k1 := fun k1 f l m fr w1 e => by
    refine xgoal [(57, [0, 1])] 100 ok_Mo_reads ?_
    exact pk_eq 0 0 (fun _ => at57n k1 f l m fr w1 e) (fun z => absurd rfl z)
  have at32 : ∀ (d : Nat) (n pos : Nat) (p : Pv) (k1 : xHp) (l : Int32), 1 ≤ n → n ≤ 7 → pc p + d = 8 → ptl p = 0 → pos ≤ wT ω → over (wT ω) (wt ω) pos = true → frm h k1 B (B + 14) → isMO k1 B ω F tx l (nI n) (nI pos) → isMd k1 B n p → X = pfin (wT ω) n (ptl4 (wT ω) (wt ω) n (pstz (wT ω) (wt ω) n d pos p)) → xAt (h.1, h.2.1) g_Mo_reads Q 32 [(0, .ref B), (1, .int (nI 1))] [] k1 := by
    intro d
    induction d with
    | zero =>
      intro n pos p k1 l hn1 hn hd h0 hpos ho fr1 w1 r1 hx
      have hx : X = pfin (wT ω) n (if tb (wT ω) (wt ω) pos = 59 then ptail (wT ω) (wt ω) n 4 pos p else .inr (pos, p)) := hx
      refine xgoal [(32, [0, 1]), (57, [0, 1])] 100 ok_Mo_reads ?_
      refine pk_eq 1 0 (fun z => absurd z (by omega)) (fun _ => ?_)
      refine xgf w1.1 rfl ?_
      refine xci (sp_Mo_byteAt (x := pos) w1.2 hT (by omega)) ?_
      refine And.intro (fun z => ?_) (fun z => ?_)
      · have c47 := (tI_c hb (by omega) (by omega)).mp z
        have hlt := tb_in2 c47 (by omega)
        rw [if_neg (by omega)] at hx
        have hx : X = (if pos < wT ω then .inl pos else .inr (n, p)) := hx
        rw [if_pos hlt] at hx
        refine xri (sp_Mo_readsStanza w1 hb hn1 hn r1 (by omega) hlt) ?_
        rintro v k2 ⟨hv, fr2⟩
        rw [if_pos (by omega)] at hv
        obtain ⟨e, w2⟩ := hv
        cases e
        exact at32n k2 pos _ _ (frm_tr fr1 fr2 (Nat.le_refl _) (Nat.le_refl _)) w2 hx
      · have c47 : ¬ tb (wT ω) (wt ω) pos = 47 := fun y => z ((tI_c hb (by omega) (by omega)).mpr y)
        refine at57 4 n pos p k1 l hn1 hn (by omega) (fun q hq => by omega) (by omega) hpos fr1 w1 r1 ?_
        by_cases c59 : tb (wT ω) (wt ω) pos = 59
        · rw [if_pos c59] at hx
          exact Or.inr (Or.inl ⟨tb_in2 c59 (by omega), by omega, hx⟩)
        · rw [if_neg c59] at hx
          have c0 : tb (wT ω) (wt ω) pos = 0 := by
            have := of_decide_eq_true ho
            exact this.elim (fun y => absurd y c47) (fun y => y.elim (fun y => absurd y c59) id)
          have hpe : ¬ pos < wT ω := fun y => by
            have := hb.2 _ y
            unfold tb at c0; rw [if_pos y] at c0; omega
          have hx : X = (if pos < wT ω then .inl pos else .inr (n, p)) := hx
          rw [if_neg hpe] at hx
          exact Or.inl ⟨by omega, hx⟩
    | succ d ih =>
      intro n pos p k1 l hn1 hn hd h0 hpos ho fr1 w1 r1 hx
      unfold pstz at hx
      refine xgoal [(32, [0, 1]), (57, [0, 1])] 100 ok_Mo_reads ?_
      refine pk_eq 1 0 (fun z => absurd z (by omega)) (fun _ => ?_)
      refine xgf w1.1 rfl ?_
      refine xci (sp_Mo_byteAt (x := pos) w1.2 hT (by omega)) ?_
      refine And.intro (fun z => ?_) (fun z => ?_)
      · have c47 := (tI_c hb (by omega) (by omega)).mp z
        have hlt := tb_in2 c47 (by omega)
        rw [if_pos c47] at hx
        have hwn := wct_le (wT ω) (wt ω) n n (pos + 1)
        have hwT := wct_T (T := wT ω) (t := wt ω) (m := n) (k := n) (pos := pos + 1) (by omega)
        refine xri (sp_Mo_readsStanza w1 hb hn1 hn r1 (by omega) hlt) ?_
        rintro v k2 ⟨hv, fr2⟩
        have fr3 := frm_tr fr1 fr2 (Nat.le_refl _) (Nat.le_refl _)
        rw [if_neg (by omega)] at hv
        by_cases cw : wct (wT ω) (wt ω) n n (pos + 1) < n
        · rw [if_pos cw] at hv hx
          obtain ⟨e, w2⟩ := hv
          cases e
          exact at32n k2 _ _ _ fr3 w2 hx
        · rw [if_neg cw] at hv hx
          obtain ⟨w2, r2, e⟩ := hv
          by_cases co : over (wT ω) (wt ω) (pos + 1 + n) = true
          · rw [if_pos co] at e hx
            cases e
            exact ih n (pos + 1 + n) (padd p (ltr (wt ω) (pos + 1))) k2 l hn1 hn (by show pc p + 1 + d = 8; omega) h0 (by omega) co fr3 w2 r2 hx
          · rw [if_neg co] at e hx
            cases e
            exact at32n k2 _ _ _ fr3 w2 hx
      · have c47 : ¬ tb (wT ω) (wt ω) pos = 47 := fun y => z ((tI_c hb (by omega) (by omega)).mpr y)
        rw [if_neg c47] at hx
        have hx : X = pfin (wT ω) n (if tb (wT ω) (wt ω) pos = 59 then ptail (wT ω) (wt ω) n 4 pos p else .inr (pos, p)) := hx
        refine at57 4 n pos p k1 l hn1 hn (by omega) (fun q hq => by omega) (by omega) hpos fr1 w1 r1 ?_
        by_cases c59 : tb (wT ω) (wt ω) pos = 59
        · rw [if_pos c59] at hx
          exact Or.inr (Or.inl ⟨tb_in2 c59 (by omega), by omega, hx⟩)
        · rw [if_neg c59] at hx
          have c0 : tb (wT ω) (wt ω) pos = 0 := by
            have := of_decide_eq_true ho
            exact this.elim (fun y => absurd y c47) (fun y => y.elim (fun y => absurd y c59) id)
          have hpe : ¬ pos < wT ω := fun y => by
            have := hb.2 _ y
            unfold tb at c0; rw [if_pos y] at c0; omega
          have hx : X = (if pos < wT ω then .inl pos else .inr (n, p)) := hx
          rw [if_neg hpe] at hx
          exact Or.inl ⟨by omega, hx⟩
  -- the first stanza, over an empty row
  obtain ⟨g8, g81⟩ := w.2.2.2.2 8 (by omega) (by omega)
  refine xgoal [(2, [0, 1])] 100 ok_Mo_reads ?_
  refine up_loop (P := fun x => ∀ (k1 : xHp) (g : Nat → Int32), frm h k1 (B + 8) (B + 8 + 1) → xat k1 (B + 8) (xia 130 g) → (∀ y, y < x → g y = nI 0) → xAt (h.1, h.2.1) g_Mo_reads Q 2 [(0, .ref B), (1, .int (nI x))] [] k1) 130 ?_ (fun x hx ih => ?_) 0 (Nat.zero_le _) h g8 frm_rf g81 (fun y hy => absurd hy (Nat.not_lt_zero y))
  · intro k1 g fr1 g1 hg
    have w1 := w.sc (c := 8) fr1 (by omega) ⟨g, g1⟩
    obtain ⟨l1, m1, s1, o1⟩ := w1.1
    have w1' : isMO k1 B ω F tx l1 m1 s1 := ⟨o1, w1⟩
    refine xgoal [(32, [0, 1])] 100 ok_Mo_reads ?_
    refine pk_le 130 130 (fun _ => ?_) (fun z => absurd z (by omega))
    refine xpf w1'.1 (Nat.le_of_ble_eq_true rfl) rfl ?_
    have w2 := w1'.ob l1 m1 (nI 0)
    have fr2 : frm h (xset k1 B (obM B (nI ω.2.1.length) (nI (wT ω)) l1 m1 (nI 0))) B (B + 14) := frm_set (frm_wd fr1 (by omega) (by omega)) (Nat.le_refl _) (by omega)
    refine xri (sp_Mo_readsFirst w2 hb (xat_set g1 (by omega)) hg) ?_
    rintro v k2 ⟨hv, fr3⟩
    have fr4 := frm_tr fr2 fr3 (Nat.le_refl _) (Nat.le_refl _)
    unfold pread at hX
    cases hpf : pfirst (wT ω) (wt ω) with
    | inl f =>
      rw [hpf] at hv hX
      obtain ⟨e, m', w3⟩ := hv
      cases e
      exact at32n k2 f _ _ fr4 w3 hX.symm
    | inr L =>
      rw [hpf] at hv hX
      obtain ⟨e, w3, r3⟩ := hv
      cases e
      have hL : L = wct (wT ω) (wt ω) 7 7 0 ∧ 2 ≤ L ∧ over (wT ω) (wt ω) L = true := by
        unfold pfirst at hpf
        split at hpf
        · cases hpf
        · rename_i c1
          split at hpf
          · cases hpf
          · cases hpf
            exact ⟨rfl, Nat.le_of_not_lt (fun z => c1 (Or.inl z)), Classical.byContradiction fun z => c1 (Or.inr z)⟩
      have hLT := wct_T (T := wT ω) (t := wt ω) (m := 7) (k := 7) (Nat.zero_le _)
      have hL7 := wct_le (wT ω) (wt ω) 7 7 0
      exact at32 7 L L _ k2 l1 (by omega) (by omega) rfl rfl (by omega) hL.2.2 fr4 w3 r3 hX.symm
  · intro k1 g fr1 g1 hg
    have w1 := w.sc (c := 8) fr1 (by omega) ⟨g, g1⟩
    obtain ⟨l1, m1, s1, o1⟩ := w1.1
    refine xgoal [(2, [0, 1]), (32, [0, 1])] 100 ok_Mo_reads ?_
    refine pk_le 130 x (fun z => absurd z (by omega)) (fun _ => ?_)
    refine xgf o1 rfl ?_
    refine xal g1 rfl (show x < 130 by omega) (by decide) ?_
    have ih := ih (xset k1 (B + 8) (xia 130 (upd g x (nI 0)))) _ (frm_set fr1 (by omega) (by omega)) (xat_sf g1.1) (fun y hy => by
      unfold upd
      by_cases e : y = x
      · rw [if_pos e]
      · rw [if_neg e]; exact hg y (by omega))
    rw [← nI_1 x] at ih
    exact ih
theorem sp_Mo_loadPoem {h : xHp} {B : Nat} {ω : Wv} (w : isM h B ω) (k : wok ω) : SpecR g_Mo_loadPoem [.ref B] h (pM h B (stLoadPoem ω)) := by
  obtain ⟨F, tx, w⟩ := w
  obtain ⟨fs, hrc⟩ := bM_rc w.b
  refine SpecR.of (by decide +kernel) (Nat.le_of_ble_eq_true rfl) (fun c hc => by cases hc; exact ⟨_, _, _, rfl, hrc⟩) (fun v h' z => ⟨⟨_, z.1⟩, z.2.2.1, z.2.2.2.1⟩) (fun Q hQ => ?_)
  generalize hO : stLoadPoem ω = o at hQ
  unfold stLoadPoem at hO
  have bad : ∀ c, (c, ω) = o → Q (some (.int c)) h := fun c e => by subst e; exact hQ _ _ ⟨rfl, ⟨F, tx, w⟩, frm_rf⟩
  have fin : ∀ (v : Int32) (ω' : Wv) (h' : xHp) (F' tx' : Nat → Int32), (v, ω') = o → isMF h' B ω' F' tx' → frm h h' B (B + 14) → Q (some (.int v)) h' := fun v ω' h' F' tx' e w' f => by subst e; exact hQ _ _ ⟨rfl, ⟨F', tx', w'⟩, f⟩
  have hn1 : 2 ≤ wN ω := k.1.1
  have hn : wN ω ≤ 7 := k.1.2.1
  have hS : ∀ i, i < wN ω → sS ω.1 i < 4 := k.1.2.2.1
  have hG : ∀ r, r < 6 → PM (wN ω) (wG ω r) := k.1.2.2.2.1
  have hP : pok (wN ω) (wP ω) := k.1.2.2.2.2
  refine xgoal [(40, [0, 1])] 100 ok_Mo_loadPoem ?_
  refine xri (sp_Mo_reads w k.2.2) ?_
  rintro v h1 ⟨hm, fr1⟩
  cases hr : pread (wT ω) (wt ω) with
  | inl f =>
    rw [hr] at hm hO
    obtain ⟨e, l, m, w1⟩ := hm
    cases e
    refine pk_eq 0 0 (fun _ => ?_) (fun z => absurd rfl z)
    refine xgf w1.1 rfl ?_
    exact fin _ _ h1 F tx hO w1.2 fr1
  | inr Z =>
    obtain ⟨n, p⟩ := Z
    rw [hr] at hm hO
    have hO : (nI (pc p), wS ω (if n = wN ω then withP ω.1 p else withP (st0 n) p)) = o := hO
    obtain ⟨e, ⟨l, s, w1⟩, r1⟩ := hm
    cases e
    obtain ⟨n2, n7, pk⟩ := pread_ok hr
    have plk0 := pread_lk hr
    refine pk_eq 1 0 (fun z => absurd z (by omega)) (fun _ => ?_)
    refine ⟨_, sp_Mo_recordsO w1.1 w1.2 k, fun h2 z => ?_⟩
    obtain ⟨-, ⟨F2, w2, -⟩, fr2, o2⟩ := z
    have r2 := r1.fr fr2 (by omega)
    obtain ⟨M, gM, m1, m2, m3, m4, m5, m6⟩ := r2
    obtain ⟨k1, k2, k3, k4, k5, k6⟩ := id pk
    have at40 : ∀ (σ : Sv) (h3 : xHp) (F3 : Nat → Int32), sN σ = n → sP σ = p → frm h2 h3 (B + 1) (B + 2) → xat h3 (B + 1) (xia 1620 F3) → (∀ x, 180 ≤ x → F3 x = F2 x) → F3 0 = nI n → (∀ i, i < n → F3 (1 + i) = nI (sS σ i)) → (∀ r, r < 6 → ∀ i, i < n → F3 (8 + 7 * r + i) = nI (sR σ r i)) → (nI (pc p), wS ω σ) = o → xAt (h.1, h.2.1) g_Mo_loadPoem Q 40 [(0, .ref B), (1, .int (nI 0))] [] h3 := by
      intro σ h3 F3 en ep fr3 g3 e1 e2 e3 e4 e5
      refine up_loop (P := fun x => ∀ (k4 : xHp) (F4 : Nat → Int32), frm h2 k4 (B + 1) (B + 2) → xat k4 (B + 1) (xia 1620 F4) → (∀ y, y < x → F4 (50 + y) = M y) → (∀ y, y < 50 ∨ 180 ≤ y → F4 y = F3 y) → xAt (h.1, h.2.1) g_Mo_loadPoem Q 40 [(0, .ref B), (1, .int (nI x))] [] k4) 130 ?_ (fun x hx ih => ?_) 0 (Nat.zero_le _) h3 F3 fr3 g3 (fun y hy => absurd hy (Nat.not_lt_zero y)) (fun _ _ => rfl)
      · intro k4 F4 fr4 g4 q1 q2
        have o4 := xat_fr o2 fr4 (by omega)
        have hp4 : pg F4 0 σ := by
          refine ⟨by rw [en, q2 0 (by omega)]; exact e2, fun i hi => ?_, fun r hr i hi => ?_, by rw [ep]; exact (q1 0 (by omega)).trans m1, fun s hs i hi => ?_, fun s hs i hi => ?_, by rw [ep]; exact (q1 113 (by omega)).trans m4, fun l hl => ?_, fun l hl k hk => ?_⟩
          · rw [en] at hi
            rw [q2 _ (by omega), Nat.zero_add]
            exact e3 i hi
          · rw [en] at hi
            rw [q2 _ (by omega), Nat.zero_add]
            exact e4 r hr i hi
          · rw [en] at hi
            rw [ep] at hs ⊢
            rw [show 0 + 51 + 7 * s + i = 50 + (1 + 7 * s + i) by omega, q1 _ (by omega)]
            exact m2 s hs i hi
          · rw [en] at hi
            rw [ep] at hs ⊢
            rw [show 0 + 107 + 7 * s + i = 50 + (57 + 7 * s + i) by omega, q1 _ (by omega), m3 _ (by omega) (by omega), plk0 s, Nat.zero_div]
          · rw [ep] at hl ⊢
            rw [show 0 + 164 + l = 50 + (114 + l) by omega, q1 _ (by omega)]
            exact m5 l hl
          · rw [ep] at hl hk ⊢
            have h3 := (k5 l hl).2
            rw [show 0 + 168 + 3 * l + k = 50 + (118 + 3 * l + k) by omega, q1 _ (by omega)]
            exact m6 l hl k hk
        have w4 : isMF k4 B (σ, (rcd ω).2) F4 tx := w2.pgw fr4 g4 hp4 (pgs_mv (rcd_ok k).2.1 (fun x hx => (q2 x (Or.inr hx)).trans (e1 x hx)) w2.2.2.1.2)
        have ev : F4 50 = nI (pc p) := (q1 0 (by omega)).trans m1
        refine xgoal [(40, [0, 1])] 100 ok_Mo_loadPoem ?_
        refine pk_le 130 130 (fun _ => ?_) (fun z => absurd z (by omega))
        refine xgf o4 rfl ?_
        refine xal g4 rfl (show 50 < 1620 by omega) (by decide) ?_
        exact fin (F4 50) _ k4 F4 tx (by rw [ev]; exact e5) w4 (frm_tr (frm_tr fr1 fr2 (by omega) (by omega)) fr4 (by omega) (by omega))
      · intro k4 F4 fr4 g4 q1 q2
        have o4 := xat_fr o2 fr4 (by omega)
        have gM4 := xat_fr gM fr4 (by omega)
        refine xgoal [(40, [0, 1])] 100 ok_Mo_loadPoem ?_
        refine pk_le 130 x (fun z => absurd z (by omega)) (fun _ => ?_)
        refine xgf o4 rfl ?_
        refine xgf o4 rfl ?_
        refine xal gM4 rfl (show x < 130 by omega) (by decide) ?_
        refine xal g4 (nI_add 50 x) (show 50 + x < 1620 by omega) (by decide) ?_
        have ih := ih (xset k4 (B + 1) (xia 1620 (upd F4 (50 + x) (M x)))) _ (frm_set fr4 (by omega) (by omega)) (xat_sf g4.1) (fun y hy => by
          unfold upd
          by_cases e : y = x
          · rw [if_pos (by omega), e]
          · rw [if_neg (by omega)]; exact q1 y (by omega)) (fun y hy => by
          unfold upd
          rw [if_neg (by omega)]; exact q2 y hy)
        rw [← nI_1 x] at ih
        exact ih
    refine xgf o2 rfl ?_
    refine xci (sp_Mo_size w2.b) ?_
    obtain ⟨pg0, pgS, pgR, -⟩ := w2.2.2.1.1
    by_cases en : n = wN ω
    · rw [if_pos en] at hO
      refine pk_eq n (wN ω) (fun _ => ?_) (fun z => absurd en z) rfl rfl
      refine at40 (withP ω.1 p) h2 F2 en.symm rfl frm_rf w2.2.1 (fun _ _ => rfl) (by rw [en]; exact pg0) (fun i hi => ?_) (fun r hr i hi => ?_) hO
      · have := pgS i (by rw [en] at hi; exact hi)
        rw [Nat.zero_add] at this
        exact this
      · have := pgR r hr i (by rw [en] at hi; exact hi)
        rw [Nat.zero_add] at this
        exact this
    · rw [if_neg en] at hO
      refine pk_eq n (wN ω) (fun z => absurd z en) (fun _ => ?_) rfl rfl
      refine xgf o2 rfl ?_
      refine xrv (sp_Mo_resets (m := n) ⟨_, _, _, _, _, o2⟩ w2.2.1) ?_
      rintro h3 ⟨-, ⟨F3, g3, c1, c2, c3, c4⟩, fr3⟩
      refine at40 (withP (st0 n) p) h3 F3 rfl rfl fr3 g3 (fun x hx => c4 x (by omega)) c1 (fun i hi => ?_) (fun r hr i hi => ?_) hO
      · rw [c2 i (by omega)]; rfl
      · rw [show 8 + 7 * r + i = 8 + (7 * r + i) by omega, c3 _ (by omega), show (7 * r + i) % 7 = i by omega]; rfl
