/-! THE OPTIMUM: what the table of the most kept places means -/
theorem bms_up {n : Nat} {x : Nat → Nat} (hn : n ≤ 7) (hx : PM n x) : ∀ k, k ≤ n → bms x k < 2 ^ n ∧ pop (bms x k) = k
  | 0, _ => ⟨Nat.two_pow_pos n, (by decide : pop 0 = 0)⟩
  | k + 1, hk => by
    obtain ⟨h1, h2⟩ := bms_up hn hx k (by omega)
    have hb : ¬ bms x k / 2 ^ x k % 2 = 1 := fun z => by
      obtain ⟨i, hi, e⟩ := (bms_bit _ _).mp ((bit_dm _ _).mp z)
      have := hx.2 i k (by omega) (by omega) e
      omega
    obtain ⟨-, g2, g3⟩ := or_up hn h1 (hx.1 k (by omega)) hb
    exact ⟨g2, by show pop (bms x k ||| 2 ^ x k) = k + 1; rw [g3, h2]⟩
theorem bms_top {n : Nat} {x : Nat → Nat} (hn : n ≤ 7) (hx : PM n x) : bms x n = 2 ^ n - 1 := by
  obtain ⟨h1, h2⟩ := bms_up hn hx n (Nat.le_refl _)
  refine Classical.byContradiction fun z => ?_
  have := ((pop_tab n (by omega)).2 _ h1).2 z
  omega
theorem mM_up {n : Nat} {KP : Nat → Nat → Nat} {AL x : Nat → Nat} (hn : n ≤ 7) (hx : PM n x) (ha : ∀ l, l < n → AL l / 2 ^ x l % 2 = 1) : sumN (fun l => KP l (x l)) n + 1 ≤ mM n KP AL 0 := by
  have key := up_loop (P := fun k => sumN (fun l => KP l (x l)) n + 1 ≤ sumN (fun l => KP l (x l)) k + mM n KP AL (bms x k)) n (by
    rw [bms_top hn hx, mM_top hn]
    exact Nat.le_refl _) (fun k hk ih => ?_) 0 (Nat.zero_le _)
  · have e : sumN (fun l => KP l (x l)) 0 + mM n KP AL (bms x 0) = mM n KP AL 0 := Nat.zero_add _
    rw [e] at key
    exact key
  · obtain ⟨h1, h2⟩ := bms_up hn hx k (by omega)
    have hm := sumN_mono (f := fun l => KP l (x l)) (show k + 1 ≤ n by omega)
    have e1 : sumN (fun l => KP l (x l)) (k + 1) = sumN (fun l => KP l (x l)) k + KP k (x k) := rfl
    have hne : bms x k ≠ 2 ^ n - 1 := fun z => by rw [z, (pop_tab n (by omega)).1] at h2; omega
    have hb : ¬ bms x k / 2 ^ x k % 2 = 1 := fun z => by
      obtain ⟨i, hi, e⟩ := (bms_bit _ _).mp ((bit_dm _ _).mp z)
      have := hx.2 i k (by omega) (by omega) e
      omega
    have hge := mw_ge (KP := KP) (AL := AL) (M := mM n KP AL) (l := pop (bms x k)) (u := bms x k) (hx.1 k hk)
    rw [← mM_eq hn (show bms x k < 2 ^ n - 1 by omega), h2] at hge
    have e2 : kw KP AL (mM n KP AL) k (x k) (bms x k) = KP k (x k) + mM n KP AL (bms x (k + 1)) := by
      unfold kw
      rw [if_neg (fun z => ?_)]
      · rfl
      · rcases z with z | z | z
        · exact hb z
        · exact z (ha k hk)
        · have z : mM n KP AL (bms x (k + 1)) = 0 := z
          omega
    omega
theorem fw_eq {n u : Nat} {KP : Nat → Nat → Nat} {AL : Nat → Nat} (hn : n ≤ 7) (hu : u < 2 ^ n - 1) (h0 : mM n KP AL u ≠ 0) : AL (pop u) / 2 ^ fw n KP AL u % 2 = 1 ∧ mM n KP AL u = KP (pop u) (fw n KP AL u) + mM n KP AL (u ||| 2 ^ fw n KP AL u) := by
  have hlt := (fw_ok hn hu h0).1
  have hy := sr_yes (fwb n KP AL u) n 0 (by unfold fw at hlt; omega)
  have hy : kw KP AL (mM n KP AL) (pop u) (fw n KP AL u) u = mM n KP AL u := of_decide_eq_true hy
  unfold kw at hy
  split at hy
  · exact absurd hy.symm h0
  · rename_i c
    exact ⟨Classical.byContradiction fun z => c (Or.inr (Or.inl z)), hy.symm⟩
theorem usd_bms {n : Nat} {KP : Nat → Nat → Nat} {AL : Nat → Nat} : ∀ i, usd n KP AL i = bms (frow n KP AL) i
  | 0 => rfl
  | i + 1 => by
    show usd n KP AL i ||| 2 ^ fw n KP AL (usd n KP AL i) = bms (frow n KP AL) i ||| 2 ^ frow n KP AL i
    rw [usd_bms i]
    unfold frow
    rw [usd_bms i]
    rfl
theorem frow_PM {n : Nat} {KP : Nat → Nat → Nat} {AL : Nat → Nat} (hn : n ≤ 7) (h0 : mM n KP AL 0 ≠ 0) : PM n (frow n KP AL) := by
  have key : ∀ i j, i < j → j < n → frow n KP AL i ≠ frow n KP AL j := fun i j h hj e => by
    obtain ⟨h1, -, h3⟩ := usd_lt hn h0 hj
    refine (fw_ok hn h1 h3).2.1 ((bit_dm _ _).mpr ?_)
    rw [usd_bms j]
    exact (bms_bit _ _).mpr ⟨i, h, by rw [e]; unfold frow; rw [usd_bms j]; rfl⟩
  refine ⟨fun i hi => frow_lt hn h0 hi, fun i j hi hj e => ?_⟩
  rcases Nat.lt_trichotomy i j with c | c | c
  · exact (key i j c hj e).elim
  · exact c
  · exact (key j i c hi e.symm).elim
theorem frow_opt {n : Nat} {KP : Nat → Nat → Nat} {AL : Nat → Nat} (hn : n ≤ 7) (h0 : mM n KP AL 0 ≠ 0) : (∀ l, l < n → AL l / 2 ^ frow n KP AL l % 2 = 1) ∧ sumN (fun l => KP l (frow n KP AL l)) n + 1 = mM n KP AL 0 := by
  refine ⟨fun l hl => ?_, ?_⟩
  · obtain ⟨h1, h2, h3⟩ := usd_lt hn h0 hl
    have := (fw_eq hn h1 h3).1
    rw [h2] at this
    exact this
  · have key : ∀ k, k ≤ n → mM n KP AL 0 = sumN (fun l => KP l (frow n KP AL l)) k + mM n KP AL (usd n KP AL k) := by
      intro k
      induction k with
      | zero => intro _; exact (Nat.zero_add _).symm
      | succ k ih =>
        intro hk
        have ih := ih (by omega)
        obtain ⟨h1, h2, h3⟩ := usd_lt hn h0 (show k < n by omega)
        have e := (fw_eq hn h1 h3).2
        rw [h2] at e
        have e1 : sumN (fun l => KP l (frow n KP AL l)) (k + 1) = sumN (fun l => KP l (frow n KP AL l)) k + KP k (fw n KP AL (usd n KP AL k)) := rfl
        have e2 : usd n KP AL (k + 1) = usd n KP AL k ||| 2 ^ fw n KP AL (usd n KP AL k) := rfl
        rw [e1, e2]
        omega
    have h := key n (Nat.le_refl _)
    rw [usd_bms n, bms_top hn (frow_PM hn h0), mM_top hn] at h
    exact h.symm
/-! poems -/
theorem itr_s1 (f : Nat → Nat) (t i : Nat) : itr f t (f i) = itr f (t + 1) i := by
  rw [itr_add f t 1]; rfl
/-- how many places a poem shares with the one that begins with x -/
def kp2 (n : Nat) (f : Nat → Nat) (p : Pv) (x : Nat → Nat) : Nat := sumN (fun t => ct (fun j => decide (pst p t j = x (itr f t j))) n) (pc p)
def df2 (n : Nat) (f : Nat → Nat) (p : Pv) (x : Nat → Nat) : Nat := sumN (fun t => ct (fun j => !decide (pst p t j = x (itr f t j))) n) (pc p)
/-- the locked places stay -/
def okx (n : Nat) (f : Nat → Nat) (p : Pv) (x : Nat → Nat) : Prop := ∀ t, t < pc p → ∀ j, j < n → plk p t / 2 ^ j % 2 = 1 → pst p t j = x (itr f t j)
theorem ct_not (p : Nat → Bool) : ∀ n, ct p n + ct (fun k => !p k) n = n
  | 0 => rfl
  | n + 1 => by
    have ih := ct_not p n
    unfold ct
    cases p n <;> simp <;> omega
theorem kp_df {n : Nat} {f : Nat → Nat} {p : Pv} {x : Nat → Nat} : kp2 n f p x + df2 n f p x = n * pc p := by
  unfold kp2 df2
  rw [← sumN_add]
  have : ∀ s, sumN (fun t => ct (fun j => decide (pst p t j = x (itr f t j))) n + ct (fun j => !decide (pst p t j = x (itr f t j))) n) s = n * s := by
    intro s
    induction s with
    | zero => rfl
    | succ s ih =>
      unfold sumN
      rw [ih, ct_not, Nat.mul_succ]
  exact this _
theorem sumN_z {F : Nat → Nat} {n : Nat} (h : sumN F n = 0) : ∀ i, i < n → F i = 0 := fun i hi => by
  have := sumN_ge (f := F) hi
  omega
theorem df_0 {n : Nat} {f : Nat → Nat} {p : Pv} {x : Nat → Nat} : df2 n f p x = 0 ↔ ∀ t, t < pc p → ∀ j, j < n → pst p t j = x (itr f t j) := by
  constructor
  · intro h t ht j hj
    have h1 := sumN_z h t ht
    refine Classical.byContradiction fun z => ?_
    have := ct_strict (p := fun j => !decide (pst p t j = x (itr f t j))) hj (by simp [z])
    have h1 : ct (fun j => !decide (pst p t j = x (itr f t j))) n = 0 := h1
    omega
  · intro h
    have : df2 n f p x = sumN (fun _ => 0) (pc p) := sumN_congr (fun t ht => ct_none (fun j hj => by simp [h t ht j hj]))
    rw [this, sumN_0]
theorem KP_kp {n : Nat} {f : Nat → Nat} {p : Pv} {x : Nat → Nat} (hn : n ≤ 7) (hk : pok n p) (hf : PM n f) (hx : PM n x) : sumN (fun l => KPp n f p l (x l)) n = kp2 n f p x := by
  have e1 : sumN (fun l => KPp n f p l (x l)) n = sumN (fun l => sumN (fun t => if decide (fG n f p t l = x l) = true then 1 else 0) (pc p)) n := sumN_congr (fun l hl => by
    rw [← ct_sumN (fun t => decide (fG n f p t l = x l))]
    exact kpS_ct hn hf hl (hx.1 l hl) (pc p) hk.2.1)
  rw [e1, sumN_swap (fun l t => if decide (fG n f p t l = x l) = true then 1 else 0) (pc p) n]
  refine sumN_congr (fun t ht => ?_)
  rw [← sumN_perm (fun l => if decide (fG n f p t l = x l) = true then 1 else 0) (itr_PM hf t), ← ct_sumN (fun j => decide (fG n f p t (itr f t j) = x (itr f t j)))]
  refine ct_congr (fun j hj => ?_)
  unfold fG JJ
  rw [inv_get (itr_PM hf t) hj]
theorem AL_ok {n : Nat} {f : Nat → Nat} {p : Pv} {x : Nat → Nat} (hf : PM n f) (hx : PM n x) : (∀ l, l < n → ALp n f p l / 2 ^ x l % 2 = 1) ↔ okx n f p x := by
  constructor
  · intro h t ht j hj hb
    have h1 := (alS_bit (p := p) hf (itr_lt hf.1 t j hj) (hx.1 _ (itr_lt hf.1 t j hj)) (pc p)).mp ((bit_dm _ _).mp (h _ (itr_lt hf.1 t j hj))) t ht
    unfold fG JJ at h1
    rw [inv_get (itr_PM hf t) hj] at h1
    exact h1 hb
  · intro h l hl
    refine (bit_dm _ _).mpr ((alS_bit (p := p) hf hl (hx.1 l hl) (pc p)).mpr (fun t ht hb => ?_))
    have h1 := get_inv (itr_PM hf t) hl
    have := h t ht _ h1.1 hb
    rw [h1.2] at this
    exact this
theorem cst_up {n : Nat} {f : Nat → Nat} {p : Pv} {x : Nat → Nat} (hn : n ≤ 7) (hk : pok n p) (hf : PM n f) (hx : PM n x) (ha : okx n f p x) : kp2 n f p x + 1 ≤ cst n f p := by
  rw [← KP_kp hn hk hf hx]
  exact mM_up hn hx ((AL_ok hf hx).mpr ha)
/-- the first stanza of the mended poem -/
abbrev fro (n : Nat) (f : Nat → Nat) (p : Pv) : Nat → Nat := frow n (KPp n f p) (ALp n f p)
theorem cst_at {n : Nat} {f : Nat → Nat} {p : Pv} (hn : n ≤ 7) (hk : pok n p) (hf : PM n f) (h0 : cst n f p ≠ 0) : PM n (fro n f p) ∧ okx n f p (fro n f p) ∧ kp2 n f p (fro n f p) + 1 = cst n f p := by
  have hx := frow_PM hn h0
  obtain ⟨h1, h2⟩ := frow_opt hn h0
  exact ⟨hx, (AL_ok hf hx).mp h1, by rw [← KP_kp hn hk hf hx]; exact h2⟩
theorem cstI_df {n : Nat} {f : Nat → Nat} {p : Pv} (hn : n ≤ 7) (hk : pok n p) (hf : PM n f) (h0 : cst n f p ≠ 0) : cstI n f p = nI (df2 n f p (fro n f p)) := by
  obtain ⟨-, -, h3⟩ := cst_at hn hk hf h0
  have h4 := kp_df (n := n) (f := f) (p := p) (x := fro n f p)
  unfold cstI
  rw [if_neg h0]
  congr 1
  omega
theorem flw_ex {n : Nat} {f : Nat → Nat} {p : Pv} (hk : pok n p) (hf : PM n f) (h1 : 1 ≤ pc p) : flw n p f = true ↔ ∃ x, PM n x ∧ ∀ t, t < pc p → ∀ j, j < n → pst p t j = x (itr f t j) := by
  unfold flw
  rw [decide_eq_true_eq]
  constructor
  · rintro ⟨h2, h3⟩
    refine ⟨pst p 0, (prop_PM (hk.2.1 0 (by omega))).mp (h2 0 (by omega)), fun t => ?_⟩
    induction t with
    | zero => intro _ j _; rfl
    | succ t ih =>
      intro ht j hj
      rw [h3 t (by omega) j hj, ih (by omega) _ (hf.1 j hj), itr_s1]
  · rintro ⟨x, hx, h⟩
    refine ⟨fun s hs => (prop_PM (hk.2.1 s hs)).mpr ⟨hk.2.1 s hs, fun i j hi hj e => ?_⟩, fun s hs i hi => ?_⟩
    · rw [h s hs i hi, h s hs j hj] at e
      exact itr_inj hf s i j hi hj (hx.2 _ _ (itr_lt hf.1 s i hi) (itr_lt hf.1 s j hj) e)
    · rw [h (s + 1) (by omega) i hi, h s (by omega) _ (hf.1 i hi), itr_s1]
theorem bst_max (mk : Nat → Nat) : ∀ k x, x < k → mk x ≤ (bst mk k).1
  | 0, x, h => absurd h (Nat.not_lt_zero x)
  | k + 1, x, h => by
    have ih := bst_max mk k
    unfold bst
    by_cases c : (bst mk k).1 < mk k
    · rw [if_pos c]
      show mk x ≤ mk k
      by_cases e : x = k
      · subst e; exact Nat.le_refl _
      · have := ih x (by omega); omega
    · rw [if_neg c]
      by_cases e : x = k
      · subst e; omega
      · exact ih x (by omega)
theorem bst_1st (mk : Nat → Nat) : ∀ k x, x < (bst mk k).2 → mk x < (bst mk k).1
  | 0, x, h => absurd h (Nat.not_lt_zero x)
  | k + 1, x, h => by
    unfold bst at h ⊢
    by_cases c : (bst mk k).1 < mk k
    · rw [if_pos c] at h ⊢
      have h : x < k := h
      show mk x < mk k
      have := bst_max mk k x h
      omega
    · rw [if_neg c] at h ⊢
      exact bst_1st mk k x h
