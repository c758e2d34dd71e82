/-! PoemReader: stanzas, the whole text -/
theorem ltr_lt {T m k pos i : Nat} {t : Nat → Nat} (h : i < wct T t m k pos) : ltr t pos i < m := by
  have := wlb_in (wct_yes h)
  unfold ltr
  omega
theorem sp_PR_readStanza {h : xHp} {a c T n pos : Nat} {p : Pv} {t : Nat → Nat} (hn : n ≤ 7) (hp : isPrd h a (nI n) pos) (ht : isText h c T t) (hb : bok T t) (hpm : isPoem h (a + 1) n p) (hc : pc p < 8) (hpos : pos ≤ T) (hd : a + 6 ≤ c ∨ c + 2 ≤ a) :
    SpecR g_PR_readStanza [.ref a, .ref c] h (fun v h' => (if wct T t n n pos < n then v = some (.int (nI (pos + wct T t n n pos))) ∧ (∃ pos', isPrd h' a (nI n) pos') ∧ shPoem h' (a + 1)
      else isPrd h' a (nI n) (pos + n) ∧ isPoem h' (a + 1) n (padd p (ltr t pos)) ∧ if over T t (pos + n) = true then v = some (.int (-1)) else v = some (.int (nI (pos + n)))) ∧ frm h h' a (a + 6)) := by
  have h0 : xat h a (xob 3 [.int (nI n), .ref (a + 1), .int (nI pos)]) := hp
  have hT := hb.1
  refine SpecR.of (by decide +kernel) (Nat.le_of_ble_eq_true rfl) (fun c hc => by cases hc; exact ⟨_, _, _, rfl, h0⟩) (fun v h' z => ⟨?_, z.2.1, z.2.2.1⟩) (fun Q hQ => ?_)
  · have z := z.1
    split at z
    · exact ⟨_, z.1⟩
    · have z := z.2.2
      split at z
      · exact ⟨_, z⟩
      · exact ⟨_, z⟩
  have hwT := wct_T (T := T) (t := t) (m := n) (k := n) hpos
  generalize hw : wct T t n n pos = w at hQ hwT
  refine xgoal [(4, [0, 1, 2, 3])] 100 ok_PR_readStanza ?_
  refine up_loop (P := fun j => ∀ k : xHp, frm h k a (a + 1) → isPrd k a (nI n) (pos + j) → w = sr (fun j => !wlb T t n (pos + j)) (n - j) j →
      (∀ i, i < j → ltr t pos i < n) → xAt (h.1, h.2.1) g_PR_readStanza Q 4 [(0, .ref a), (1, .ref c), (2, .int (R (nrm j (ltr t pos)))), (3, .int (nI j))] [] k) n ?_ (fun j hj ih => ?_) 0 (Nat.zero_le _) h frm_rf hp hw.symm (fun i hi => absurd hi (Nat.not_lt_zero i))
  · intro k fr k0 he _
    rw [Nat.sub_self] at he
    have he : w = n := he
    subst he
    simp only [if_neg (Nat.lt_irrefl w)] at hQ
    refine xgoal [(4, [0, 1, 2, 3])] 100 ok_PR_readStanza ?_
    refine xgf k0 rfl ?_
    refine pk_le w w (fun _ => ?_) (fun c => absurd c (by omega))
    refine xgf k0 rfl ?_
    refine xrv (sp_Poem_append (f := ltr t pos) (hpm.fr fr (by omega)) hc) ?_
    rintro h' ⟨-, ep, fr2⟩
    have fr3 := frm_tr (frm_wd fr (Nat.le_refl a) (show a + 1 ≤ a + 6 by omega)) fr2 (by omega) (by omega)
    have k2 : isPrd h' a (nI w) (pos + w) := xat_fr k0 fr2 (by omega)
    refine xci (sp_PR_isStanzaOver k2 (ht.fr fr3 (by omega)) hb (by omega)) ?_
    by_cases ho : over T t (pos + w) = true
    · simp only [if_pos ho] at hQ
      rw [if_pos ho]
      exact pk_eq 1 0 (fun c => absurd c (by omega)) (fun _ => hQ _ _ ⟨⟨k2, ep, rfl⟩, fr3⟩)
    · simp only [if_neg ho] at hQ
      rw [if_neg ho]
      refine pk_eq 0 0 (fun _ => ?_) (fun c => absurd rfl c)
      exact xgf k2 rfl (hQ _ _ ⟨⟨k2, ep, rfl⟩, fr3⟩)
  · intro k fr k0 he h8
    rw [show n - j = (n - (j + 1)) + 1 by omega] at he
    unfold sr at he
    refine xgoal [(4, [0, 1, 2, 3])] 100 ok_PR_readStanza ?_
    refine xgf k0 rfl ?_
    refine pk_le n j (fun c => absurd c (by omega)) (fun _ => ?_)
    refine xgf k0 rfl ?_
    have sp := sp_PR_wordBelow (m := n) k0 (ht.fr fr (by omega)) (by omega)
    refine xci sp ?_
    by_cases hl : wlb T t n (pos + j) = true
    · rw [if_neg (by simp [hl])] at he
      obtain ⟨e1, e2⟩ := wb_yes hb (by omega) hl
      have e2 : ltr t pos j < n := e2
      refine pk_le 0 (t (pos + j) - 97) (fun _ => ?_) (fun c => absurd c (by omega)) rfl e1
      have sp2 := sp_Row_with (f := nrm j (ltr t pos)) (i := j) (v := ltr t pos j) (nrm_b8 (fun i hi => by have := h8 i hi; omega)) (by omega) (by omega) k
      rw [R_push, show nI (ltr t pos j) = wbI (tb T t (pos + j)) n from e1.symm] at sp2
      refine xci sp2 ?_
      refine xgf k0 rfl ?_
      refine xpf k0 (Nat.le_of_ble_eq_true rfl) rfl ?_
      have ih := ih (xset k a (xob 3 [.int (nI n), .ref (a + 1), .int (nI (pos + j) + nI 1)])) (frm_set fr (Nat.le_refl _) (by omega)) (by unfold isPrd; rw [nI_add]; exact xat_sf k0.1) he (fun i hi => by
        by_cases e : i = j
        · subst e; exact e2
        · exact h8 i (by omega))
      rw [← nI_1 j] at ih
      exact ih
    · rw [if_pos (by simp [hl])] at he
      subst he
      simp only [if_pos hj] at hQ
      refine And.intro (fun c => absurd c (lt_nle (wb_no hb (by omega) hl))) (fun _ => ?_)
      exact xgf k0 rfl (hQ _ _ ⟨⟨rfl, ⟨_, k0⟩, (hpm.fr fr (by omega)).sh⟩, frm_wd fr (by omega) (by omega)⟩)
theorem sp_PR_readFirstStanza {h : xHp} {a c T : Nat} {p : Pv} {n0 : Int32} {t : Nat → Nat} (hp : isPrd h a n0 0) (ht : isText h c T t) (hb : bok T t) (hpm : isPoem h (a + 1) (wct T t 7 7 0) p) (hc : pc p < 8) (hd : a + 6 ≤ c ∨ c + 2 ≤ a) :
    SpecR g_PR_readFirstStanza [.ref a, .ref c] h (fun v h' => (match pfirst T t with | .inl f => v = some (.int (nI f)) ∧ f ≤ 81 ∧ (∃ n pos', isPrd h' a n pos') ∧ shPoem h' (a + 1) | .inr L => v = some (.int (-1)) ∧ isPrd h' a (nI L) L ∧ isPoem h' (a + 1) L (padd p (ltr t 0))) ∧ frm h h' a (a + 6)) := by
  have h0 : xat h a (xob 3 [.int n0, .ref (a + 1), .int (nI 0)]) := hp
  have hT := hb.1
  have hL7 := wct_le T t 7 7 0
  have hLT := wct_T (T := T) (t := t) (m := 7) (k := 7) (Nat.zero_le T)
  have hlt : ∀ i, i < wct T t 7 7 0 → ltr t 0 i < 7 := fun i hi => ltr_lt hi
  generalize hX : pfirst T t = X
  unfold pfirst at hX
  refine SpecR.of (by decide +kernel) (Nat.le_of_ble_eq_true rfl) (fun c hc => by cases hc; exact ⟨_, _, _, rfl, h0⟩) (fun v h' z => ⟨?_, z.2.1, z.2.2.1⟩) (fun Q hQ => ?_)
  · have z := z.1
    split at z
    · exact ⟨_, z.1⟩
    · exact ⟨_, z.1⟩
  generalize hL : wct T t 7 7 0 = L at hX hL7 hLT hlt hpm
  have hQf : ∀ (k : xHp) (f : Nat) (n : Int32) (pos' : Nat), X = .inl f → f ≤ 81 → isPrd k a n pos' → frm h k a (a + 1) → Q (some (.int (nI f))) k := fun k f n pos' e h81 kp fr => by
    rw [e] at hQ
    exact hQ _ _ ⟨⟨rfl, h81, ⟨n, pos', kp⟩, (hpm.fr fr (by omega)).sh⟩, frm_wd fr (by omega) (by omega)⟩
  have after : ∀ k : xHp, frm h k a (a + 1) → isPrd k a n0 L → xAt (h.1, h.2.1) g_PR_readFirstStanza Q 49 [(0, .ref a), (1, .ref c), (2, .int (nI L)), (3, .int (R (nrm L (ltr t 0))))] [] k := by
    intro k fr k0
    refine xgoal [(70, [0, 2, 3, 4])] 100 ok_PR_readFirstStanza ?_
    refine pk_lt L 2 (fun c2 => ?_) (fun c2 => ?_)
    · rw [if_pos (Or.inl c2)] at hX
      refine xgf k0 rfl ?_
      exact hQf k L n0 L hX.symm (by omega) k0 fr
    · refine xci (sp_PR_isStanzaOver k0 (ht.fr fr (by omega)) hb (by omega)) ?_
      by_cases ho : over T t L = true
      · refine pk_eq 1 0 (fun z => absurd z (by omega)) (fun _ => ?_) (by rw [if_pos ho]) rfl
        rw [if_neg (fun z => z.elim (fun z => by omega) (fun z => z ho))] at hX
        refine up_loop (P := fun i => (∀ j, j < i → t j - 97 < L) → xAt (h.1, h.2.1) g_PR_readFirstStanza Q 70 [(0, .ref a), (2, .int (nI L)), (3, .int (R (nrm L (ltr t 0)))), (4, .int (nI i))] [] k) L (fun hall => ?_) (fun i hi ih => ?_) 0 (Nat.zero_le _) (fun j hj => absurd hj (Nat.not_lt_zero j))
        · rw [if_neg (fun z => by
            have hy := sr_yes (fun k => decide (L ≤ t k - 97)) L 0 (by omega)
            have := hall _ z
            have := of_decide_eq_true hy
            omega)] at hX
          subst hX
          refine xgoal [(70, [0, 2, 3, 4])] 100 ok_PR_readFirstStanza ?_
          refine pk_le L L (fun _ => ?_) (fun z => absurd z (by omega))
          refine xpf k0 (Nat.le_of_ble_eq_true rfl) rfl ?_
          have k0' : xat k a (xob 3 [.int n0, .ref (a + 1), .int (nI L)]) := k0
          refine xgf (xat_sf k0'.1) rfl ?_
          have fr1 : frm h (xset k a (xob 3 [.int (nI L), .ref (a + 1), .int (nI L)])) a (a + 1) := frm_set fr (by omega) (by omega)
          refine xrv (sp_Poem_append (f := ltr t 0) (hpm.fr fr1 (by omega)) hc) ?_
          rintro h' ⟨-, ep, fr2⟩
          exact hQ _ _ ⟨⟨rfl, xat_fr (xat_sf k0'.1) fr2 (by omega), ep⟩, frm_tr (frm_wd fr1 (Nat.le_refl a) (show a + 1 ≤ a + 6 by omega)) fr2 (by omega) (by omega)⟩
        · intro hall
          have hl7 := hlt i hi
          refine xgoal [(70, [0, 2, 3, 4])] 100 ok_PR_readFirstStanza ?_
          refine pk_le L i (fun z => absurd z (by omega)) (fun _ => ?_)
          have sp := sp_Row_entry (f := nrm L (ltr t 0)) (i := i) (nrm_b8 (fun j hj => by have := hlt j hj; omega)) (by omega) k
          rw [nrm_in hi] at sp
          refine xci sp ?_
          have e0 : ltr t 0 i = t i - 97 := by unfold ltr; rw [Nat.zero_add]
          refine pk_lt (ltr t 0 i) L (fun z => ?_) (fun z => ?_)
          · have ih := ih (fun j hj => by
              by_cases e : j = i
              · subst e; omega
              · exact hall j (by omega))
            rw [← nI_1 i] at ih
            exact ih
          · have hs : sr (fun k => decide (L ≤ t k - 97)) L 0 = i := sr_at (Nat.zero_le _) (by omega) (decide_eq_true (by omega)) (fun j _ hj => decide_eq_false (by have := hall j hj; omega))
            rw [hs, if_pos hi] at hX
            exact hQf k i n0 L hX.symm (by omega) k0 fr
      · refine pk_eq 0 0 (fun _ => ?_) (fun z => absurd rfl z) (by rw [if_neg ho]) rfl
        rw [if_pos (Or.inr ho)] at hX
        refine xgf k0 rfl ?_
        exact hQf k L n0 L hX.symm (by omega) k0 fr
  refine xgoal [(4, [0, 1, 2, 3])] 100 ok_PR_readFirstStanza ?_
  refine up_loop (P := fun j => ∀ k : xHp, frm h k a (a + 1) → isPrd k a n0 j → L = sr (fun j => !wlb T t 7 (0 + j)) (7 - j) j →
      (∀ i, i < j → ltr t 0 i < 7) → xAt (h.1, h.2.1) g_PR_readFirstStanza Q 4 [(0, .ref a), (1, .ref c), (2, .int (nI j)), (3, .int (R (nrm j (ltr t 0))))] [] k) 7 ?_ (fun j hj ih => ?_) 0 (Nat.zero_le _) h frm_rf hp hL.symm (fun i hi => absurd hi (Nat.not_lt_zero i))
  · intro k fr k0 he _
    have he : L = 7 := he
    subst he
    refine xgoal [(49, [0, 1, 2, 3])] 100 ok_PR_readFirstStanza ?_
    exact pk_le 7 7 (fun _ => after k fr k0) (fun z => absurd z (by omega))
  · intro k fr k0 he h7
    rw [show 7 - j = (7 - (j + 1)) + 1 by omega] at he
    unfold sr at he
    rw [Nat.zero_add] at he
    refine xgoal [(4, [0, 1, 2, 3]), (49, [0, 1, 2, 3])] 100 ok_PR_readFirstStanza ?_
    refine pk_le 7 j (fun z => absurd z (by omega)) (fun _ => ?_)
    have sp := sp_PR_wordBelow (m := 7) k0 (ht.fr fr (by omega)) (by omega)
    refine xci sp ?_
    by_cases hl : wlb T t 7 j = true
    · rw [if_neg (by simp [hl])] at he
      obtain ⟨e1, e2⟩ := wb_yes hb (by omega) hl
      have e0 : ltr t 0 j = t j - 97 := by unfold ltr; rw [Nat.zero_add]
      refine pk_lt (t j - 97) 0 (fun z => absurd z (by omega)) (fun _ => ?_) e1 rfl
      refine xci sp ?_
      have sp2 := sp_Row_with (f := nrm j (ltr t 0)) (i := j) (v := ltr t 0 j) (nrm_b8 (fun i hi => by have := h7 i hi; omega)) (by omega) (by omega) k
      rw [R_push, show nI (ltr t 0 j) = wbI (tb T t j) 7 by rw [e0, e1]] at sp2
      refine xci sp2 ?_
      refine xgf k0 rfl ?_
      refine xpf k0 (Nat.le_of_ble_eq_true rfl) rfl ?_
      have k0' : xat k a (xob 3 [.int n0, .ref (a + 1), .int (nI j)]) := k0
      have ih := ih (xset k a (xob 3 [.int n0, .ref (a + 1), .int (nI j + nI 1)])) (frm_set fr (Nat.le_refl _) (by omega)) (by unfold isPrd; rw [nI_add]; exact xat_sf k0'.1) he (fun i hi => by
        by_cases e : i = j
        · subst e; omega
        · exact h7 i (by omega))
      rw [← nI_1 j] at ih
      exact ih
    · rw [if_pos (by simp [hl])] at he
      subst he
      exact And.intro (fun _ => after k fr k0) (fun z => absurd (wb_no hb (by omega) hl) z)
theorem nI_m1 {f : Nat} (h : f < 2147483648) : ¬ nI f = -1 := fun z => by
  have := congrArg Int32.toInt z
  rw [nI_toInt h, show (-1 : Int32).toInt = -1 by decide] at this
  omega
/-- how the reader stands: a fault, or all right up to a place -/
def prS (T a L : Nat) (k : xHp) (v : Int32) : Nat ⊕ (Nat × Pv) → Prop
  | .inl f => v = nI f ∧ f ≤ 81 ∧ (∃ n pos, isPrd k a n pos) ∧ shPoem k (a + 1)
  | .inr (pos, p) => v = -1 ∧ pos ≤ T ∧ isPrd k a (nI L) pos ∧ isPoem k (a + 1) L p
theorem sp_PR_readText {h : xHp} {a c T pos0 : Nat} {n0 : Int32} {t : Nat → Nat} (hp : isPrd h a n0 pos0) (hs : shPoem h (a + 1)) (ht : isText h c T t) (hb : bok T t) (hd : a + 6 ≤ c ∨ c + 2 ≤ a) :
    SpecR g_PR_readText [.ref a, .ref c] h (fun v h' => (match pread T t with | .inl f => v = some (.int (nI f)) ∧ f ≤ 81 ∧ (∃ n pos', isPrd h' a n pos') ∧ shPoem h' (a + 1) | .inr (n, p) => v = some (.int (-1)) ∧ (∃ pos', isPrd h' a (nI n) pos') ∧ isPoem h' (a + 1) n p) ∧ frm h h' a (a + 6)) := by
  have h0 : xat h a (xob 3 [.int n0, .ref (a + 1), .int (nI pos0)]) := hp
  have hT := hb.1
  generalize hX : pread T t = X
  unfold pread at hX
  refine SpecR.of (by decide +kernel) (Nat.le_of_ble_eq_true rfl) (fun c hc => by cases hc; exact ⟨_, _, _, rfl, h0⟩) (fun v h' z => ⟨?_, z.2.1, z.2.2.1⟩) (fun Q hQ => ?_)
  · have z := z.1
    split at z
    · exact ⟨_, z.1⟩
    · exact ⟨_, z.1⟩
  have at90 : ∀ (L : Nat) (Y : Nat ⊕ (Nat × Pv)) (k : xHp) (v : Int32), frm h k a (a + 6) → prS T a L k v Y → X = pfin T L Y → xAt (h.1, h.2.1) g_PR_readText Q 90 [(0, .ref a), (1, .ref c), (2, .int v)] [] k := by
    intro L Y k v fr hY he
    refine xgoal [] 100 ok_PR_readText ?_
    cases Y with
    | inl f =>
      obtain ⟨rfl, h81, hP, hS⟩ := hY
      have he : X = .inl f := he
      rw [he] at hQ
      exact And.intro (fun z => absurd z (nI_m1 (by omega))) (fun _ => hQ _ _ ⟨⟨rfl, h81, hP, hS⟩, fr⟩)
    | inr Z =>
      obtain ⟨pos, p⟩ := Z
      obtain ⟨rfl, hpT, k0, kp⟩ := hY
      have he : X = if pos < T then .inl pos else .inr (L, p) := he
      refine And.intro (fun _ => ?_) (fun z => absurd rfl z)
      refine xgf k0 rfl ?_
      refine xgf (ht.fr fr (by omega)).2.1 rfl ?_
      refine pk_le T pos (fun z => ?_) (fun z => ?_)
      · rw [if_neg (by omega)] at he
        rw [he] at hQ
        exact hQ _ _ ⟨⟨rfl, ⟨_, k0⟩, kp⟩, fr⟩
      · rw [if_pos (by omega)] at he
        rw [he] at hQ
        refine xgf k0 rfl ?_
        exact hQ _ _ ⟨⟨rfl, by omega, ⟨_, _, k0⟩, kp.sh⟩, fr⟩
  have at66 : ∀ (L : Nat) (Y : Nat ⊕ (Nat × Pv)) (k : xHp) (v : Int32), L ≤ 7 → frm h k a (a + 6) → prS T a L k v Y → (∀ pos p, Y = .inr (pos, p) → ptl p = 0) → X = pfin T L (ptl4 T t L Y) → xAt (h.1, h.2.1) g_PR_readText Q 66 [(0, .ref a), (1, .ref c), (2, .int v)] [] k := by
    intro L Y k v hL fr hY htl he
    refine xgoal [(90, [0, 1, 2])] 100 ok_PR_readText ?_
    cases Y with
    | inl f =>
      have hY2 := hY
      obtain ⟨rfl, h81, hP, hS⟩ := hY2
      exact And.intro (fun z => absurd z (nI_m1 (by omega))) (fun _ => at90 L (.inl f) k _ fr hY he)
    | inr Z =>
      obtain ⟨pos, p⟩ := Z
      have hY2 := hY
      obtain ⟨rfl, hpT, k0, kp⟩ := hY2
      have he : X = pfin T L (if tb T t pos = 59 then ptail T t L 4 pos p else .inr (pos, p)) := he
      refine And.intro (fun _ => ?_) (fun z => absurd rfl z)
      refine xgf k0 rfl ?_
      have := tb_lt hb pos
      refine xci (sp_Txt_byteAt (i := pos) (ht.fr fr (by omega)) (by omega)) ?_
      refine pk_eq (tb T t pos) 59 (fun z => ?_) (fun z => ?_)
      · rw [if_pos z] at he
        have hpos : pos < T := by
          by_cases y : pos < T
          · exact y
          · unfold tb at z; rw [if_neg y] at z; omega
        refine xri (sp_PR_readTail hL k0 (ht.fr fr (by omega)) hb kp (htl _ _ rfl) hpos hd) ?_
        rintro r h' ⟨hm, fr2⟩
        have fr3 := frm_tr fr fr2 (by omega) (by omega)
        cases hpt : ptail T t L 4 pos p with
        | inl f =>
          rw [hpt] at hm he
          obtain ⟨e, h81, ⟨pos', hP⟩, hS⟩ := hm
          cases e
          exact at90 L (.inl f) h' _ fr3 ⟨rfl, h81, ⟨_, _, hP⟩, hS⟩ he
        | inr Z =>
          obtain ⟨pos', p'⟩ := Z
          rw [hpt] at hm he
          obtain ⟨e, h81, hP, hS⟩ := hm
          cases e
          exact at90 L (.inr (pos', p')) h' _ fr3 ⟨rfl, h81, hP, hS⟩ he
      · rw [if_neg z] at he
        exact at90 L (.inr (pos, p)) k _ fr hY he
  have at20 : ∀ (L : Nat) (_ : L ≤ 7) (s : Nat), s ≤ 8 → 1 ≤ s → ∀ (Y : Nat ⊕ (Nat × Pv)) (k : xHp) (v : Int32), frm h k a (a + 6) → prS T a L k v Y → (∀ pos p, Y = .inr (pos, p) → ptl p = 0 ∧ pc p = s) → X = pfin T L (ptl4 T t L (match Y with | .inl f => .inl f | .inr (pos, p) => pstz T t L (8 - s) pos p)) → xAt (h.1, h.2.1) g_PR_readText Q 20 [(0, .ref a), (1, .ref c), (2, .int v), (3, .int (nI s))] [] k := by
    intro L hL s hs8
    refine up_loop (P := fun s => 1 ≤ s → ∀ (Y : Nat ⊕ (Nat × Pv)) (k : xHp) (v : Int32), frm h k a (a + 6) → prS T a L k v Y → (∀ pos p, Y = .inr (pos, p) → ptl p = 0 ∧ pc p = s) → X = pfin T L (ptl4 T t L (match Y with | .inl f => .inl f | .inr (pos, p) => pstz T t L (8 - s) pos p)) → xAt (h.1, h.2.1) g_PR_readText Q 20 [(0, .ref a), (1, .ref c), (2, .int v), (3, .int (nI s))] [] k) 8 ?_ (fun s hs ih => ?_) s hs8
    · intro _ Y k v fr hY htl he
      refine xgoal [(66, [0, 1, 2])] 100 ok_PR_readText ?_
      refine pk_le 8 8 (fun _ => at66 L Y k v hL fr hY (fun pos p e => (htl pos p e).1) ?_) (fun z => absurd z (by omega))
      cases Y with
      | inl f => exact he
      | inr Z => exact he
    · intro hs1 Y k v fr hY htl he
      refine xgoal [(20, [0, 1, 2, 3]), (66, [0, 1, 2])] 100 ok_PR_readText ?_
      refine pk_le 8 s (fun z => absurd z (by omega)) (fun _ => ?_)
      cases Y with
      | inl f =>
        have hY2 := hY
        obtain ⟨rfl, h81, hP, hS⟩ := hY2
        exact And.intro (fun z => absurd z (nI_m1 (by omega))) (fun _ => at66 L (.inl f) k _ hL fr hY (fun _ _ e => by cases e) he)
      | inr Z =>
        obtain ⟨pos, p⟩ := Z
        have hY2 := hY
        obtain ⟨rfl, hpT, k0, kp⟩ := hY2
        obtain ⟨e0, e8⟩ := htl pos p rfl
        have he : X = pfin T L (ptl4 T t L (pstz T t L (8 - s) pos p)) := he
        rw [show 8 - s = (7 - s) + 1 by omega] at he
        unfold pstz at he
        refine And.intro (fun _ => ?_) (fun z => absurd rfl z)
        refine xgf k0 rfl ?_
        have := tb_lt hb pos
        refine xci (sp_Txt_byteAt (i := pos) (ht.fr fr (by omega)) (by omega)) ?_
        refine pk_eq (tb T t pos) 47 (fun z => ?_) (fun z => ?_)
        · rw [if_pos z] at he
          have hpos : pos < T := by
            by_cases y : pos < T
            · exact y
            · unfold tb at z; rw [if_neg y] at z; omega
          have k0' : xat k a (xob 3 [.int (nI L), .ref (a + 1), .int (nI pos)]) := k0
          refine xgf k0 rfl ?_
          refine xpf k0 (Nat.le_of_ble_eq_true rfl) rfl ?_
          have k1 : isPrd (xset k a (xob 3 [.int (nI L), .ref (a + 1), .int (nI pos + nI 1)])) a (nI L) (pos + 1) := by unfold isPrd; rw [nI_add]; exact xat_sf k0'.1
          have fr1 : frm k (xset k a (xob 3 [.int (nI L), .ref (a + 1), .int (nI pos + nI 1)])) a (a + 1) := frm_set frm_rf (by omega) (by omega)
          have fr1' := frm_tr fr fr1 (by omega) (by omega)
          have hwT := wct_T (T := T) (t := t) (m := L) (k := L) (pos := pos + 1) (by omega)
          refine xri (sp_PR_readStanza hL k1 (ht.fr fr1' (by omega)) hb (kp.fr fr1 (by omega)) (by omega) (by omega) hd) ?_
          rintro r h' ⟨hm, fr2⟩
          have fr3 := frm_tr fr1' fr2 (by omega) (by omega)
          by_cases cw : wct T t L L (pos + 1) < L
          · rw [if_pos cw] at hm he
            obtain ⟨e, ⟨pos', hP⟩, hS⟩ := hm
            cases e
            have ih := ih (by omega) (.inl (pos + 1 + wct T t L L (pos + 1))) h' _ fr3 ⟨rfl, by omega, ⟨_, _, hP⟩, hS⟩ (fun _ _ e => by cases e) he
            rw [← nI_1 s] at ih
            exact ih
          · rw [if_neg cw] at hm he
            have hwL := wct_le T t L L (pos + 1)
            obtain ⟨hP, hS, hv⟩ := hm
            by_cases ho : over T t (pos + 1 + L) = true
            · rw [if_pos ho] at hv he
              cases hv
              have ih := ih (by omega) (.inr (pos + 1 + L, padd p (ltr t (pos + 1)))) h' _ fr3 ⟨rfl, by omega, hP, hS⟩ (fun _ _ e => by cases e; exact ⟨e0, by show pc p + 1 = s + 1; omega⟩) (by rw [show 8 - (s + 1) = 7 - s by omega]; exact he)
              rw [← nI_1 s] at ih
              exact ih
            · rw [if_neg ho] at hv he
              cases hv
              have ih := ih (by omega) (.inl (pos + 1 + L)) h' _ fr3 ⟨rfl, by omega, ⟨_, _, hP⟩, hS.sh⟩ (fun _ _ e => by cases e) he
              rw [← nI_1 s] at ih
              exact ih
        · rw [if_neg z] at he
          exact at66 L (.inr (pos, p)) k _ hL fr hY (fun _ _ e => by cases e; exact e0) he
  have hL7 := wct_le T t 7 7 0
  refine xgoal [(20, [0, 1, 2, 3])] 100 ok_PR_readText ?_
  refine xgf h0 rfl ?_
  refine xrv (sp_Poem_empty (wct T t 7 7 0) hs) ?_
  rintro h1 ⟨-, ep, fr1⟩
  have k1 := xat_fr h0 fr1 (by omega)
  refine xpf k1 (Nat.le_of_ble_eq_true rfl) rfl ?_
  have fr1' := frm_wd fr1 (show a ≤ a + 1 by omega) (show a + 1 + 5 ≤ a + 6 by omega)
  have fr2 : frm h1 (xset h1 a (xob 3 [.int n0, .ref (a + 1), .int (nI 0)])) a (a + 1) := frm_set frm_rf (by omega) (by omega)
  have fr2' := frm_tr fr1' fr2 (by omega) (by omega)
  refine xri (sp_PR_readFirstStanza (p := pv0) (xat_sf k1.1) (ht.fr fr2' (by omega)) hb ((ep pv0 rfl rfl).fr fr2 (by omega)) (by decide) hd) ?_
  rintro r h2 ⟨hm, fr3⟩
  have fr4 := frm_tr fr2' fr3 (by omega) (by omega)
  cases hpf : pfirst T t with
  | inl f =>
    rw [hpf] at hm hX
    obtain ⟨e, h81, hP, hS⟩ := hm
    cases e
    exact at20 0 (by omega) 1 (by omega) (by omega) (.inl f) h2 _ fr4 ⟨rfl, h81, hP, hS⟩ (fun _ _ e => by cases e) hX.symm
  | inr L =>
    rw [hpf] at hm hX
    obtain ⟨e, hP, hS⟩ := hm
    cases e
    have hL : L = wct T t 7 7 0 := by
      unfold pfirst at hpf
      split at hpf
      · cases hpf
      · split at hpf
        · cases hpf
        · cases hpf; rfl
    have hLT := wct_T (T := T) (t := t) (m := 7) (k := 7) (Nat.zero_le T)
    exact at20 L (by omega) 1 (by omega) (by omega) (.inr (L, padd pv0 (ltr t 0))) h2 _ fr4 ⟨rfl, by omega, hP, hS⟩ (fun _ _ e => by cases e; exact ⟨rfl, rfl⟩) hX.symm
