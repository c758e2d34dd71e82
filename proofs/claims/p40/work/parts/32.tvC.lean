/-! THE CLASS'S CALLS, the rest: loadPoem, the tail, rhymes, the whole -/
theorem pok_add {n : Nat} {p : Pv} {f : Nat → Nat} (hk : pok n p) (hc : pc p < 8) (hf : ∀ i, i < n → f i < n) : pok n (padd p f) := by
  obtain ⟨k1, k2, k3, k4, k5, k6⟩ := hk
  refine ⟨by show pc p + 1 ≤ 8; omega, fun s hs i hi => ?_, fun s hs => ?_, k4, k5, k6⟩
  · have hs : s < pc p + 1 := hs
    show (if s = pc p then f else pst p s) i < n
    by_cases e : s = pc p
    · rw [if_pos e]; exact hf i hi
    · rw [if_neg e]; exact k2 s (by omega) i hi
  · have hs : s < pc p + 1 := hs
    show (if s = pc p then 0 else plk p s) < 2 ^ n
    by_cases e : s = pc p
    · rw [if_pos e]; exact Nat.two_pow_pos n
    · rw [if_neg e]; exact k3 s (by omega)
theorem pok_tadd {n m : Nat} {p : Pv} {f : Nat → Nat} (hk : pok n p) (hc : ptl p < 4) (h1 : 1 ≤ m) (h3 : m ≤ 3) (hf : ∀ i, i < m → f i < n) : pok n (ptadd p m f) := by
  obtain ⟨k1, k2, k3, k4, k5, k6⟩ := hk
  refine ⟨k1, k2, k3, by show ptl p + 1 ≤ 4; omega, fun l hl => ?_, fun l hl i hi => ?_⟩
  · have hl : l < ptl p + 1 := hl
    show 1 ≤ (if l = ptl p then m else ptn p l) ∧ (if l = ptl p then m else ptn p l) ≤ 3
    by_cases e : l = ptl p
    · rw [if_pos e]; exact ⟨h1, h3⟩
    · rw [if_neg e]; exact k5 l (by omega)
  · have hl : l < ptl p + 1 := hl
    have hi : i < (if l = ptl p then m else ptn p l) := hi
    show (if l = ptl p then f else ptw p l) i < n
    by_cases e : l = ptl p
    · rw [if_pos e] at hi ⊢; exact hf i hi
    · rw [if_neg e] at hi ⊢; exact k6 l (by omega) i hi
theorem ptail_ok {T n : Nat} {t : Nat → Nat} : ∀ (k pos : Nat) (p : Pv) (pos' : Nat) (p' : Pv), pok n p → ptl p + k ≤ 4 → ptail T t n k pos p = .inr (pos', p') → pok n p'
  | 0, pos, p, pos', p', hk, hc, e => by cases e; exact hk
  | k + 1, pos, p, pos', p', hk, hc, e => by
    unfold ptail at e
    have hw := wct_le T t n 3 (pos + 1)
    split at e
    · cases e
    · rename_i c
      have h2 : pok n (ptadd p (wct T t n 3 (pos + 1)) (ltr t (pos + 1))) := pok_tadd hk (by omega) (by omega) hw (fun i hi => ltr_lt hi)
      split at e
      · exact ptail_ok k _ _ _ _ h2 (by show ptl p + 1 + k ≤ 4; omega) e
      · cases e; exact h2
theorem pstz_ok {T n : Nat} {t : Nat → Nat} : ∀ (k pos : Nat) (p : Pv) (pos' : Nat) (p' : Pv), pok n p → pc p + k ≤ 8 → pstz T t n k pos p = .inr (pos', p') → pok n p' ∧ ptl p' = ptl p
  | 0, pos, p, pos', p', hk, hc, e => by cases e; exact ⟨hk, rfl⟩
  | k + 1, pos, p, pos', p', hk, hc, e => by
    unfold pstz at e
    split at e
    · split at e
      · cases e
      · rename_i c
        have hw := wct_le T t n n (pos + 1)
        split at e
        · have h2 : pok n (padd p (ltr t (pos + 1))) := pok_add hk (by omega) (fun i hi => ltr_lt (T := T) (k := n) (by omega))
          have := pstz_ok k _ _ _ _ h2 (by show pc p + 1 + k ≤ 8; omega) e
          exact ⟨this.1, this.2⟩
        · cases e
    · cases e; exact ⟨hk, rfl⟩
theorem pread_ok {T n : Nat} {t : Nat → Nat} {p : Pv} (e : pread T t = .inr (n, p)) : 2 ≤ n ∧ n ≤ 7 ∧ pok n p := by
  unfold pread at e
  cases hf : pfirst T t with
  | inl f => rw [hf] at e; cases e
  | inr L =>
    rw [hf] at e
    have e : pfin T L (ptl4 T t L (pstz T t L 7 L (padd pv0 (ltr t 0)))) = .inr (n, p) := e
    have hL7 := wct_le T t 7 7 0
    have hL : L = wct T t 7 7 0 ∧ 2 ≤ L ∧ ∀ i, i < L → ltr t 0 i < L := by
      unfold pfirst at hf
      split at hf
      · cases hf
      · rename_i c1
        split at hf
        · cases hf
        · rename_i c2
          cases hf
          refine ⟨rfl, Nat.le_of_not_lt (fun z => c1 (Or.inl z)), fun i hi => ?_⟩
          have := sr_no (fun k => decide (wct T t 7 7 0 ≤ t k - 97)) (wct T t 7 7 0) 0 i (Nat.zero_le _) (by omega)
          have := of_decide_eq_false this
          unfold ltr
          rw [Nat.zero_add]
          omega
    obtain ⟨e1, e2, e3⟩ := hL
    have h0 : pok L (padd pv0 (ltr t 0)) := pok_add ⟨by decide, fun s hs => absurd hs (Nat.not_lt_zero s), fun s hs => absurd hs (Nat.not_lt_zero s), by decide, fun l hl => absurd hl (Nat.not_lt_zero l), fun l hl => absurd hl (Nat.not_lt_zero l)⟩ (by decide) e3
    cases hs : pstz T t L 7 L (padd pv0 (ltr t 0)) with
    | inl f => rw [hs] at e; have e : (.inl f : Nat ⊕ (Nat × Pv)) = .inr (n, p) := e; cases e
    | inr Z =>
      obtain ⟨pos, p1⟩ := Z
      rw [hs] at e
      obtain ⟨g1, g2⟩ := pstz_ok _ _ _ _ _ h0 (Nat.le_refl 8) hs
      have e : pfin T L (if tb T t pos = 59 then ptail T t L 4 pos p1 else .inr (pos, p1)) = .inr (n, p) := e
      have g2 : ptl p1 = 0 := g2
      split at e
      · cases ht : ptail T t L 4 pos p1 with
        | inl f => rw [ht] at e; have e : (.inl f : Nat ⊕ (Nat × Pv)) = .inr (n, p) := e; cases e
        | inr Z =>
          obtain ⟨pos2, p2⟩ := Z
          rw [ht] at e
          have e : (if pos2 < T then (.inl pos2 : Nat ⊕ (Nat × Pv)) else .inr (L, p2)) = .inr (n, p) := e
          split at e
          · cases e
          · cases e
            exact ⟨e2, by omega, ptail_ok _ _ _ _ _ g1 (by omega) ht⟩
      · have e : (if pos < T then (.inl pos : Nat ⊕ (Nat × Pv)) else .inr (L, p1)) = .inr (n, p) := e
        split at e
        · cases e
        · cases e
          exact ⟨e2, by omega, g1⟩
theorem snd_lt {ω : Wv} {s : Nat} (k : wok ω) (hs : s < pc (wP ω)) : ∀ i, i < wN ω → snd_ ω s i < 8 := fun i hi => by
  have hP : pok (wN ω) (wP ω) := k.1.2.2.2.2
  have hS : ∀ i, i < wN ω → sS ω.1 i < 4 := k.1.2.2.1
  have := hS _ (hP.2.1 s hs i hi)
  unfold snd_; omega
theorem sp_TV_told {h : xHp} {A : Nat} {ω : Wv} {a : Int32} (w : isT h A ω) (k : wok ω) : SpecR g_TV_told [.ref A, .int a] h (pT h A (stTold ω a)) := by
  refine SpecR.of (by decide +kernel) (Nat.le_of_ble_eq_true rfl) (fun c hc => by cases hc; exact ⟨_, _, _, rfl, w.1⟩) (fun v h' z => ⟨⟨_, z.1⟩, z.2.2.1, z.2.2.2.1⟩) (fun Q hQ => ?_)
  generalize hO : stTold ω a = o at hQ
  unfold stTold at hO
  have bad : ∀ c, (c, ω) = o → Q (some (.int c)) h := fun c e => by subst e; exact hQ _ _ ⟨rfl, w, frm_rf⟩
  have hn1 : 2 ≤ wN ω := k.1.1
  have hn : wN ω ≤ 7 := k.1.2.1
  have hS : ∀ i, i < wN ω → sS ω.1 i < 4 := k.1.2.2.1
  have hG : ∀ r, r < 6 → PM (wN ω) (wG ω r) := k.1.2.2.2.1
  have hP : pok (wN ω) (wP ω) := k.1.2.2.2.2
  refine xgoal [] 100 ok_TV_told ?_
  obtain ⟨hl8, hx0, hx8, hh0, -⟩ := w.2.2.1
  refine gdZ (m := 6) (by omega) (fun z => ?_) (fun z => ?_) (fun x hx e hx4 => ?_)
  · rw [gdN z] at hO; exact bad _ hO
  · rw [gdN z] at hO; exact bad _ hO
  subst e
  rw [gdS hx] at hO
  refine pk_eq x 0 (fun c => ?_) (fun c0 => ?_)
  · subst c
    refine xgf w.1 rfl ?_
    refine xgf w.2.1.1 rfl ?_
    exact bad _ hO
  refine pk_eq x 1 (fun c => ?_) (fun c1 => ?_)
  · subst c
    refine xgf w.1 rfl ?_
    refine xgf w.2.1.1 rfl ?_
    refine xgf (wpm w) rfl ?_
    exact bad _ hO
  refine pk_eq x 2 (fun c => ?_) (fun c2 => ?_)
  · subst c
    refine xgf w.1 rfl ?_
    refine xgf w.2.1.1 rfl ?_
    refine xgf w.1 rfl ?_
    refine xgf w.2.1.1 rfl ?_
    refine xci (sp_Poem_properStanzas (n := wN ω) (p := wP ω) hn w.2.1.2.2 hP) ?_
    exact bad _ hO
  refine pk_eq x 3 (fun c => ?_) (fun c3 => ?_)
  · subst c
    refine xgf w.1 rfl ?_
    refine xgf w.2.1.1 rfl ?_
    refine xci (sp_Poem_lockedPlaces (n := wN ω) (p := wP ω) hn w.2.1.2.2 hP) ?_
    exact bad _ hO
  refine pk_eq x 4 (fun c => ?_) (fun c4 => ?_)
  · subst c
    refine xgf w.1 rfl ?_
    refine xgf w.2.2.2.1.2.1 rfl ?_
    exact bad _ hO
  · have : x = 5 := by omega
    subst this
    refine xgf w.1 rfl ?_
    refine xgf hh0 rfl ?_
    exact bad _ hO
theorem sp_TV_undo {h : xHp} {A : Nat} {ω : Wv} (w : isT h A ω) (k : wok ω) : SpecR g_TV_undo [.ref A] h (pT h A (stUndo ω)) := by
  refine SpecR.of (by decide +kernel) (Nat.le_of_ble_eq_true rfl) (fun c hc => by cases hc; exact ⟨_, _, _, rfl, w.1⟩) (fun v h' z => ⟨⟨_, z.1⟩, z.2.2.1, z.2.2.2.1⟩) (fun Q hQ => ?_)
  generalize hO : stUndo ω = o at hQ
  unfold stUndo at hO
  have bad : ∀ c, (c, ω) = o → Q (some (.int c)) h := fun c e => by subst e; exact hQ _ _ ⟨rfl, w, frm_rf⟩
  have hn1 : 2 ≤ wN ω := k.1.1
  have hn : wN ω ≤ 7 := k.1.2.1
  have hS : ∀ i, i < wN ω → sS ω.1 i < 4 := k.1.2.2.1
  have hG : ∀ r, r < 6 → PM (wN ω) (wG ω r) := k.1.2.2.2.1
  have hP : pok (wN ω) (wP ω) := k.1.2.2.2.2
  refine xgoal [] 100 ok_TV_undo ?_
  have hh := w.2.2.1
  have hl8 := hh.1
  obtain ⟨-, x, hx8, hh0, -⟩ := w.2.2.1
  refine xgf w.1 rfl ?_
  refine xgf hh0 rfl ?_
  cases hl : ω.2.1 with
  | nil =>
    rw [hl] at hO
    refine And.intro (fun _ => bad _ hO) (fun z => absurd ?_ z)
    rfl
  | cons σ l =>
    rw [hl] at hO hh hl8
    rw [List.length_cons] at hl8
    refine pk_eq (l.length + 1) 0 (fun c => absurd c (by omega)) (fun _ => ?_)
    refine xgf w.1 rfl ?_
    refine xgf w.1 rfl ?_
    refine xrv (sp_Hist_restore hh w.2.1.sh (k.2.1 σ (by rw [hl]; exact List.mem_cons_self)) (by omega)) ?_
    rintro h1 ⟨-, z1, z2, fr1, -⟩
    have w1 : isT h1 A (σ, l, ω.2.2) := by
      obtain ⟨w0, -, -, w3, ⟨⟨n, pos, w4⟩, w5⟩, ⟨q, w6⟩, w7, w8, ⟨g, w9⟩⟩ := w
      exact ⟨xat_fr w0 fr1 (by omega), z2, z1, w3.fr fr1 (by omega), ⟨⟨n, pos, xat_fr w4 fr1 (by omega)⟩, w5.fr fr1 (by omega)⟩, ⟨q, xat_fr w6 fr1 (by omega)⟩, w7.fr fr1 (by omega), w8.fr fr1 (by omega), ⟨g, xat_fr w9 fr1 (by omega)⟩⟩
    obtain ⟨-, x1, hx1, hh1, -⟩ := z1
    refine xgf w1.1 rfl ?_
    refine xgf hh1 rfl ?_
    subst hO
    exact hQ _ _ ⟨rfl, w1, frm_wd fr1 (by omega) (by omega)⟩
/-! the digest -/
theorem xrl_ {g : xSig} {As : List Value} {h : xHp} {P : Option Value → xHp → Prop} {K : Int64 → xHp → Prop} (sp : SpecR g As h P) (p : ∀ (r : Int64) (h' : xHp), P (some (.long r)) h' → K r h') : ∃ P : Option Value → xHp → Prop, SpecR g As h P ∧ ∀ (r : Int64) (h' : xHp), P (some (.long r)) h' → K r h' := ⟨P, sp, p⟩
def pL (h : xHp) (A : Nat) (ω : Wv) (x : Int64) : Option Value → xHp → Prop := fun v h' => v = some (.long x) ∧ isT h' A ω ∧ frm h h' A (A + 84)
