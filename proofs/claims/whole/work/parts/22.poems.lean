/-! PoemReader: stanzas, the whole text -/
theorem ltr_lt {T m k pos i : Nat} {t : Nat → Nat} (h : i < wct T t m k pos) : ltr t pos i < m := by
  have := wlb_in (wct_yes h)
  unfold ltr
  omega
theorem sp_PR_readStanza {h : xHp} {a c T n pos : Nat} {p : Pv} {t : Nat → Nat} (hn : n ≤ 7) (hp : isPrd h a (nI n) pos) (ht : isText h c T t) (hb : bok T t) (hpm : isPoem h (a + 1) n p) (hc : pc p < 8) (hpos : pos ≤ T) (hd : a + 6 ≤ c ∨ c + 2 ≤ a) :
    SpecR g_PR_readStanza [.ref a, .ref c] h (fun v h' => (if wct T t n n pos < n then v = some (.int (nI (pos + wct T t n n pos))) ∧ (∃ pos', isPrd h' a (nI n) pos') ∧ shPoem h' (a + 1)
      else isPrd h' a (nI n) (pos + n) ∧ isPoem h' (a + 1) n (padd p (ltr t pos)) ∧ if over T t (pos + n) = true then v = some (.int (-1)) else v = some (.int (nI (pos + n)))) ∧ frm h h' a (a + 6)) := by
  have h0 : xat h a (xob 3 [.int (nI n), .ref (a + 1), .int (nI pos)]) := hp
  have hT := hb.1
  refine SpecR.of (by decide +kernel) (Nat.le_of_ble_eq_true rfl) (fun c hc => by cases hc; exact ⟨_, _, _, rfl, h0⟩) (fun v h' z => ⟨?_, z.2.1, z.2.2.1⟩) (fun Q hQ => ?_)
  · have z := z.1
    split at z
    · exact ⟨_, z.1⟩
    · have z := z.2.2
      split at z
      · exact ⟨_, z⟩
      · exact ⟨_, z⟩
  have hwT := wct_T (T := T) (t := t) (m := n) (k := n) hpos
  generalize hw : wct T t n n pos = w at hQ hwT
  refine xgoal [(4, [0, 1, 2, 3])] 100 ok_PR_readStanza ?_
  refine up_loop (P := fun j => ∀ k : xHp, frm h k a (a + 1) → isPrd k a (nI n) (pos + j) → w = sr (fun j => !wlb T t n (pos + j)) (n - j) j →
      (∀ i, i < j → ltr t pos i < n) → xAt (h.1, h.2.1) g_PR_readStanza Q 4 [(0, .ref a), (1, .ref c), (2, .int (R (nrm j (ltr t pos)))), (3, .int (nI j))] [] k) n ?_ (fun j hj ih => ?_) 0 (Nat.zero_le _) h frm_rf hp hw.symm (fun i hi => absurd hi (Nat.not_lt_zero i))
  · intro k fr k0 he _
    rw [Nat.sub_self] at he
    have he : w = n := he
    subst he
    rw [if_neg (Nat.lt_irrefl _)] at hQ
    refine xgoal [(4, [0, 1, 2, 3])] 100 ok_PR_readStanza ?_
    refine xgf k0 rfl ?_
    refine pk_le w w (fun _ => ?_) (fun c => absurd c (by omega))
    refine xgf k0 rfl ?_
    refine xrv (sp_Poem_append (f := ltr t pos) (hpm.fr fr (by omega)) hc) ?_
    rintro h' ⟨-, ep, fr2⟩
    have fr3 := frm_tr (frm_wd fr (Nat.le_refl a) (show a + 1 ≤ a + 6 by omega)) fr2 (by omega) (by omega)
    have k2 : isPrd h' a (nI w) (pos + w) := xat_fr k0 fr2 (by omega)
    refine xci (sp_PR_isStanzaOver k2 (ht.fr fr3 (by omega)) hb (by omega)) ?_
    by_cases ho : over T t (pos + w) = true
    · rw [if_pos ho] at hQ
      rw [if_pos ho]
      exact pk_eq 1 0 (fun c => absurd c (by omega)) (fun _ => hQ _ _ ⟨⟨k2, ep, rfl⟩, fr3⟩)
    · rw [if_neg ho] at hQ
      rw [if_neg ho]
      refine pk_eq 0 0 (fun _ => ?_) (fun c => absurd rfl c)
      exact xgf k2 rfl (hQ _ _ ⟨⟨k2, ep, rfl⟩, fr3⟩)
  · intro k fr k0 he h8
    rw [show n - j = (n - (j + 1)) + 1 by omega] at he
    unfold sr at he
    refine xgoal [(4, [0, 1, 2, 3])] 100 ok_PR_readStanza ?_
    refine xgf k0 rfl ?_
    refine pk_le n j (fun c => absurd c (by omega)) (fun _ => ?_)
    refine xgf k0 rfl ?_
    have sp := sp_PR_wordBelow (m := n) k0 (ht.fr fr (by omega)) (by omega)
    refine xci sp ?_
    by_cases hl : wlb T t n (pos + j) = true
    · rw [if_neg (by simp [hl])] at he
      obtain ⟨e1, e2⟩ := wb_yes hb (by omega) hl
      have e2 : ltr t pos j < n := e2
      refine pk_le 0 (t (pos + j) - 97) (fun _ => ?_) (fun c => absurd c (by omega)) rfl e1
      have sp2 := sp_Row_with (f := nrm j (ltr t pos)) (i := j) (v := ltr t pos j) (nrm_b8 (fun i hi => by have := h8 i hi; omega)) (by omega) (by omega) k
      rw [R_push, show nI (ltr t pos j) = wbI (tb T t (pos + j)) n from e1.symm] at sp2
      refine xci sp2 ?_
      refine xgf k0 rfl ?_
      refine xpf k0 (Nat.le_of_ble_eq_true rfl) rfl ?_
      have ih := ih (xset k a (xob 3 [.int (nI n), .ref (a + 1), .int (nI (pos + j) + nI 1)])) (frm_set fr (Nat.le_refl _) (by omega)) (by unfold isPrd; rw [nI_add]; exact xat_sf k0.1) he (fun i hi => by
        by_cases e : i = j
        · subst e; exact e2
        · exact h8 i (by omega))
      rw [← nI_1 j] at ih
      exact ih
    · rw [if_pos (by simp [hl])] at he
      subst he
      rw [if_pos hj] at hQ
      refine And.intro (fun c => absurd c (lt_nle (wb_no hb (by omega) hl))) (fun _ => ?_)
      exact xgf k0 rfl (hQ _ _ ⟨⟨rfl, ⟨_, k0⟩, (hpm.fr fr (by omega)).sh⟩, frm_wd fr (by omega) (by omega)⟩)
theorem sp_PR_readFirstStanza {h : xHp} {a c T : Nat} {p : Pv} {n0 : Int32} {t : Nat → Nat} (hp : isPrd h a n0 0) (ht : isText h c T t) (hb : bok T t) (hpm : isPoem h (a + 1) (wct T t 7 7 0) p) (hc : pc p < 8) (hd : a + 6 ≤ c ∨ c + 2 ≤ a) :
    SpecR g_PR_readFirstStanza [.ref a, .ref c] h (fun v h' => (match pfirst T t with | .inl f => v = some (.int (nI f)) ∧ f ≤ 81 ∧ (∃ n pos', isPrd h' a n pos') ∧ shPoem h' (a + 1) | .inr L => v = some (.int (-1)) ∧ isPrd h' a (nI L) L ∧ isPoem h' (a + 1) L (padd p (ltr t 0))) ∧ frm h h' a (a + 6)) := by
  have h0 : xat h a (xob 3 [.int n0, .ref (a + 1), .int (nI 0)]) := hp
  have hT := hb.1
  have hL7 := wct_le T t 7 7 0
  have hLT := wct_T (T := T) (t := t) (m := 7) (k := 7) (Nat.zero_le T)
  have hlt : ∀ i, i < wct T t 7 7 0 → ltr t 0 i < 7 := fun i hi => ltr_lt hi
  generalize hX : pfirst T t = X
  unfold pfirst at hX
  refine SpecR.of (by decide +kernel) (Nat.le_of_ble_eq_true rfl) (fun c hc => by cases hc; exact ⟨_, _, _, rfl, h0⟩) (fun v h' z => ⟨?_, z.2.1, z.2.2.1⟩) (fun Q hQ => ?_)
  · have z := z.1
    split at z
    · exact ⟨_, z.1⟩
    · exact ⟨_, z.1⟩
  generalize hL : wct T t 7 7 0 = L at hX hL7 hLT hlt hpm
  have hQf : ∀ (k : xHp) (f : Nat) (n : Int32) (pos' : Nat), X = .inl f → f ≤ 81 → isPrd k a n pos' → frm h k a (a + 1) → Q (some (.int (nI f))) k := fun k f n pos' e h81 kp fr => by
    rw [e] at hQ
    exact hQ _ _ ⟨⟨rfl, h81, ⟨n, pos', kp⟩, (hpm.fr fr (by omega)).sh⟩, frm_wd fr (by omega) (by omega)⟩
  refine xgoal [(4, [0, 1, 2, 3])] 100 ok_PR_readFirstStanza ?_
  refine up_loop (P := fun j => ∀ k : xHp, frm h k a (a + 1) → isPrd k a n0 j → L = sr (fun j => !wlb T t 7 (0 + j)) (7 - j) j →
      (∀ i, i < j → ltr t 0 i < 7) → xAt (h.1, h.2.1) g_PR_readFirstStanza Q 4 [(0, .ref a), (1, .ref c), (2, .int (nI j)), (3, .int (R (nrm j (ltr t 0))))] [] k) 7 ?_ (fun j hj ih => ?_) 0 (Nat.zero_le _) h frm_rf hp hL.symm (fun i hi => absurd hi (Nat.not_lt_zero i))
  · sorry
  · sorry
