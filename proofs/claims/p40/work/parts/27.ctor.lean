/-! CONSTRUCTORS -/
/-- cells from lo up to hi are as they were; others may be new -/
def sub (h h' : xHp) (lo hi : Nat) : Prop := h.1 ≤ h'.1 ∧ ∀ b, lo ≤ b → b < hi → h'.2.2 b = h.2.2 b
theorem sub_rf {h : xHp} {lo hi : Nat} : sub h h lo hi := ⟨Nat.le_refl _, fun _ _ _ => rfl⟩
theorem sub_tr {h h' h2 : xHp} {lo hi lo' hi' : Nat} (f : sub h h' lo hi) (g : sub h' h2 lo' hi') (h1 : lo' ≤ lo) (h3 : hi ≤ hi') : sub h h2 lo hi := ⟨Nat.le_trans f.1 g.1, fun b a1 a2 => (g.2 b (by omega) (by omega)).trans (f.2 b a1 a2)⟩
theorem sub_wd {h h' : xHp} {lo hi lo' hi' : Nat} (f : sub h h' lo hi) (h1 : lo ≤ lo') (h3 : hi' ≤ hi) : sub h h' lo' hi' := ⟨f.1, fun b a1 a2 => f.2 b (by omega) (by omega)⟩
theorem sub_set {h h' : xHp} {lo hi a : Nat} {e : xE} (f : sub h h' lo hi) (h1 : a < lo ∨ hi ≤ a) : sub h (xset h' a e) lo hi := ⟨f.1, fun b a1 a2 => (va_up_ne h'.2.2 e (show b ≠ a by omega)).trans (f.2 b a1 a2)⟩
theorem sub_new {h h' : xHp} {lo hi n : Nat} {e : xE} (f : sub h h' lo hi) (h1 : hi ≤ h'.1) : sub h (xnew h' n e) lo hi := ⟨Nat.le_succ_of_le f.1, fun b a1 a2 => (va_up_ne h'.2.2 e (show b ≠ h'.1 by omega)).trans (f.2 b a1 a2)⟩
theorem sub_fr {h h' h2 : xHp} {lo hi lo' hi' : Nat} (f : sub h h' lo hi) (g : frm h' h2 lo' hi') (h1 : hi ≤ lo' ∨ hi' ≤ lo) : sub h h2 lo hi := ⟨by rw [g.1]; exact f.1, fun b a1 a2 => (g.2.2 b (by omega)).trans (f.2 b a1 a2)⟩
theorem xat_sb {h h' : xHp} {lo hi a : Nat} {e : xE} (ha : xat h a e) (f : sub h h' lo hi) (h1 : lo ≤ a) (h2 : a < hi) : xat h' a e := ⟨Nat.lt_of_lt_of_le ha.1 f.1, (f.2 a h1 h2).trans ha.2⟩
theorem xat_new {h : xHp} {a n : Nat} {e e' : xE} (ha : xat h a e) : xat (xnew h n e') a e := ⟨Nat.lt_succ_of_lt ha.1, (va_up_ne h.2.2 e' (Nat.ne_of_lt ha.1)).trans ha.2⟩
theorem xat_nf {h : xHp} {n : Nat} {e : xE} : xat (xnew h n e) h.1 e := ⟨Nat.lt_succ_self _, va_up_self h.2.2 h.1 e⟩
theorem isPoem.sb {h h' : xHp} {a n lo hi : Nat} {p : Pv} (hp : isPoem h a n p) (f : sub h h' lo hi) (h1 : lo ≤ a) (h2 : a + 5 ≤ hi) : isPoem h' a n p := by
  obtain ⟨q0, ⟨f1, q1, r1⟩, ⟨f2, q2, r2⟩, ⟨f3, q3, r3⟩, ⟨f4, q4, r4⟩⟩ := hp
  exact ⟨xat_sb q0 f (by omega) (by omega), ⟨f1, xat_sb q1 f (by omega) (by omega), r1⟩, ⟨f2, xat_sb q2 f (by omega) (by omega), r2⟩, ⟨f3, xat_sb q3 f (by omega) (by omega), r3⟩, ⟨f4, xat_sb q4 f (by omega) (by omega), r4⟩⟩
theorem shPoem.sb {h h' : xHp} {a lo hi : Nat} (hp : shPoem h a) (f : sub h h' lo hi) (h1 : lo ≤ a) (h2 : a + 5 ≤ hi) : shPoem h' a := by
  obtain ⟨c, t, f1, f2, f3, f4, q0, q1, q2, q3, q4⟩ := hp
  exact ⟨c, t, f1, f2, f3, f4, xat_sb q0 f (by omega) (by omega), xat_sb q1 f (by omega) (by omega), xat_sb q2 f (by omega) (by omega), xat_sb q3 f (by omega) (by omega), xat_sb q4 f (by omega) (by omega)⟩
theorem isState.sb {h h' : xHp} {a lo hi : Nat} {σ : Sv} (hs : isState h a σ) (f : sub h h' lo hi) (h1 : lo ≤ a) (h2 : a + 7 ≤ hi) : isState h' a σ := by
  obtain ⟨q0, ⟨g, q1, r1⟩, q2⟩ := hs
  exact ⟨xat_sb q0 f (by omega) (by omega), ⟨g, xat_sb q1 f (by omega) (by omega), r1⟩, q2.sb f (by omega) (by omega)⟩
theorem shState.sb {h h' : xHp} {a lo hi : Nat} (hs : shState h a) (f : sub h h' lo hi) (h1 : lo ≤ a) (h2 : a + 7 ≤ hi) : shState h' a := by
  obtain ⟨n, s, g, q0, q1, q2⟩ := hs
  exact ⟨n, s, g, xat_sb q0 f (by omega) (by omega), xat_sb q1 f (by omega) (by omega), q2.sb f (by omega) (by omega)⟩
theorem isHist.sb {h h' : xHp} {b lo hi : Nat} {l : List Sv} (hs : isHist h b l) (f : sub h h' lo hi) (g1 : lo ≤ b) (g2 : b + 58 ≤ hi) : isHist h' b l := by
  obtain ⟨hl, x, hx, q0, ⟨g, q1, r1⟩, q2, q3⟩ := hs
  refine ⟨hl, x, hx, xat_sb q0 f (by omega) (by omega), ⟨g, xat_sb q1 f (by omega) (by omega), r1⟩, fun j hj => (q2 j hj).sb f (by omega) (by omega), fun i σ hi => ?_⟩
  have : (x + 7 - i) % 8 < 8 := Nat.mod_lt _ (by decide)
  exact (q3 i σ hi).sb f (by omega) (by omega)
theorem isText.sb {h h' : xHp} {c n lo hi : Nat} {t : Nat → Nat} (hs : isText h c n t) (f : sub h h' lo hi) (h1 : lo ≤ c) (h2 : c + 2 ≤ hi) : isText h' c n t := by
  obtain ⟨hl, q0, ⟨g, q1, r1⟩⟩ := hs
  exact ⟨hl, xat_sb q0 f (by omega) (by omega), g, xat_sb q1 f (by omega) (by omega), r1⟩
theorem shSea.sb {h h' : xHp} {a lo hi : Nat} (hp : shSea h a) (f : sub h h' lo hi) (h1 : lo ≤ a) (h2 : a + 4 ≤ hi) : shSea h' a := by
  obtain ⟨c, n, s, f1, f2, f3, q0, q1, q2, q3⟩ := hp
  exact ⟨c, n, s, f1, f2, f3, xat_sb q0 f (by omega) (by omega), xat_sb q1 f (by omega) (by omega), xat_sb q2 f (by omega) (by omega), xat_sb q3 f (by omega) (by omega)⟩
theorem shFit.sb {h h' : xHp} {a lo hi : Nat} (hp : shFit h a) (f : sub h h' lo hi) (h1 : lo ≤ a) (h2 : a + 4 ≤ hi) : shFit h' a := by
  obtain ⟨n, f1, f2, f3, q0, q1, q2, q3⟩ := hp
  exact ⟨n, f1, f2, f3, xat_sb q0 f (by omega) (by omega), xat_sb q1 f (by omega) (by omega), xat_sb q2 f (by omega) (by omega), xat_sb q3 f (by omega) (by omega)⟩
/-- a constructor's frame: mc cells of ms slots are new, and below a nothing has changed -/
def frA (h h' : xHp) (a mc ms : Nat) : Prop := h'.1 = h.1 + mc ∧ h'.2.1 = h.2.1 + ms ∧ ∀ b, b < a → h'.2.2 b = h.2.2 b
theorem frA_sub {h h' : xHp} {a mc ms lo hi : Nat} (f : frA h h' a mc ms) (h1 : hi ≤ a) : sub h h' lo hi := ⟨by rw [f.1]; omega, fun b _ h2 => f.2.2 b (by omega)⟩
theorem up_ne {f : Nat → xE} {a b : Nat} {e : xE} (h : b ≠ a) : va_up f a e b = f b := va_up_ne f e h
theorem up_eq {f : Nat → xE} {a : Nat} {e : xE} : va_up f a e a = e := va_up_self f a e
/-- a cell of a heap that was built by writing and making -/
theorem hA_i {N S : Nat} {F : Nat → xE} {a : Nat} {e : xE} (h1 : a < N) (h2 : F a = e) : xat (N, S, F) a e := ⟨h1, h2⟩
theorem sp_Poem_init {h : xHp} {a : Nat} (h0 : xat h a (xob 2 (xdef 2))) (hN : h.1 = a + 1) : SpecA g_Poem_init [.ref a] h 4 24 (fun v h' => v = none ∧ shPoem h' a ∧ frA h h' a 4 24) := by
  refine SpecA.of 4 24 (by decide +kernel) (Nat.le_of_ble_eq_true rfl) (fun c hc => by cases hc) (fun v h' z => ⟨z.1, z.2.2.1, z.2.2.2.1⟩) (fun Q hQ => ?_)
  obtain ⟨N, S, F⟩ := h
  have hN : N = a + 1 := hN
  subst hN
  refine xgoal [] 100 ok_Poem_init ?_
  refine xpf h0 (Nat.le_of_ble_eq_true rfl) rfl ?_
  refine xpf (xat_sf h0.1) (Nat.le_of_ble_eq_true rfl) rfl ?_
  refine ⟨8, rfl, by decide, by show a + 1 + 1 ≤ a + 1 + 4; omega, by show S + 8 ≤ S + 24; omega, ?_⟩
  refine xpf (xat_new (xat_sf (h := xset _ _ _) h0.1)) (Nat.le_of_ble_eq_true rfl) rfl ?_
  refine ⟨8, rfl, by decide, by show a + 1 + 1 + 1 ≤ a + 1 + 4; omega, by show S + 8 + 8 ≤ S + 24; omega, ?_⟩
  refine xpf (xat_new (xat_sf (by show a < a + 1 + 1; omega))) (Nat.le_of_ble_eq_true rfl) rfl ?_
  refine ⟨4, rfl, by decide, by show a + 1 + 1 + 1 + 1 ≤ a + 1 + 4; omega, by show S + 8 + 8 + 4 ≤ S + 24; omega, ?_⟩
  refine xpf (xat_new (xat_sf (by show a < a + 1 + 1 + 1; omega))) (Nat.le_of_ble_eq_true rfl) rfl ?_
  refine ⟨4, rfl, by decide, by show a + 1 + 1 + 1 + 1 + 1 ≤ a + 1 + 4; omega, by show S + 8 + 8 + 4 + 4 ≤ S + 24; omega, ?_⟩
  refine xpf (xat_new (xat_sf (by show a < a + 1 + 1 + 1 + 1; omega))) (Nat.le_of_ble_eq_true rfl) rfl ?_
  refine hQ _ _ ⟨rfl, ⟨0, 0, fun _ => 0, fun _ => 0, fun _ => 0, fun _ => 0, ?_, ?_, ?_, ?_, ?_⟩, rfl, rfl, fun b hb => ?_⟩
  · exact xat_sf (by show a < a + 1 + 1 + 1 + 1 + 1; omega)
  · refine xat_set (xat_new (xat_set (xat_new (xat_set (xat_new (xat_set ?_ (by omega))) (by omega))) (by omega))) (by omega)
    exact xat_nf (h := xset (xset (a + 1, S, F) a _) a _)
  · refine xat_set (xat_new (xat_set (xat_new (xat_set ?_ (by omega))) (by omega))) (by omega)
    exact xat_nf (h := xset (xnew _ _ _) _ _)
  · refine xat_set (xat_new (xat_set ?_ (by omega))) (by omega)
    exact xat_nf (h := xset (xnew _ _ _) _ _)
  · refine xat_set ?_ (by omega)
    exact xat_nf (h := xset (xnew _ _ _) _ _)
  · have hb1 : b ≠ a := by omega
    show va_up (va_up (va_up (va_up (va_up (va_up (va_up (va_up (va_up (va_up F a _) a _) (a + 1) _) a _) (a + 1 + 1) _) a _) (a + 1 + 1 + 1) _) a _) (a + 1 + 1 + 1 + 1) _) a _ b = F b
    rw [up_ne hb1, up_ne (by omega), up_ne hb1, up_ne (by omega), up_ne hb1, up_ne (by omega), up_ne hb1, up_ne (by omega), up_ne hb1, up_ne hb1]
theorem shPoem0 {h : xHp} {a : Nat} (hp : shPoem h a) : ∃ f1 f2 f3 f4 : Nat → Int32, ∃ c t : Int32, xat h a (xob 2 [.int c, .int t, .ref (a + 1), .ref (a + 2), .ref (a + 3), .ref (a + 4)]) ∧ xat h (a + 1) (xia 8 f1) ∧ xat h (a + 2) (xia 8 f2) ∧ xat h (a + 3) (xia 4 f3) ∧ xat h (a + 4) (xia 4 f4) := by
  obtain ⟨c, t, f1, f2, f3, f4, q⟩ := hp
  exact ⟨f1, f2, f3, f4, c, t, q⟩
theorem sp_Sta_init {h : xHp} {a : Nat} (h0 : xat h a (xob 5 (xdef 5))) (hN : h.1 = a + 1) : SpecA g_Sta_init [.ref a] h 6 36 (fun v h' => v = none ∧ isState h' a (st0 6) ∧ frA h h' a 6 36) := by
  refine SpecA.of 6 36 (by decide +kernel) (Nat.le_of_ble_eq_true rfl) (fun c hc => by cases hc) (fun v h' z => ⟨z.1, z.2.2.1, z.2.2.2.1⟩) (fun Q hQ => ?_)
  obtain ⟨N, S, F⟩ := h
  have hN : N = a + 1 := hN
  subst hN
  refine xgoal [] 100 ok_Sta_init ?_
  refine ⟨6, rfl, by decide, by show a + 1 + 1 ≤ a + 1 + 6; omega, by show S + 6 ≤ S + 36; omega, ?_⟩
  refine xpf (xat_new h0) (Nat.le_of_ble_eq_true rfl) rfl ?_
  refine ⟨by show a + 1 + 1 + 1 ≤ a + 1 + 6; omega, by show S + 6 + 6 ≤ S + 36; omega, ?_⟩
  refine ⟨4, 24, _, sp_Poem_init (a := a + 2) (xat_nf (h := xset _ _ _)) rfl, by show a + 1 + 1 + 1 + 4 ≤ a + 1 + 6; omega, by show S + 6 + 6 + 24 ≤ S + 36; omega, ?_⟩
  rintro h1 ⟨-, hp, fr1⟩
  have k0 : xat h1 a (xob 5 [.int 0, .int 0, .ref (a + 1), .null]) := xat_sb (xat_new (xat_sf (by show a < a + 1 + 1; omega))) (frA_sub (lo := 0) fr1 (Nat.le_refl _)) (by omega) (by omega)
  have k1 : xat h1 (a + 1) (xia 6 (fun _ => 0)) := xat_sb (xat_new (xat_set (xat_nf (h := (a + 1, S, F))) (by show a + 1 ≠ a; omega))) (frA_sub (lo := 0) fr1 (Nat.le_refl _)) (by omega) (by omega)
  refine xpf k0 (Nat.le_of_ble_eq_true rfl) rfl ?_
  have hsh : shState (xset h1 a (xob 5 [.int 0, .int 0, .ref (a + 1), .ref (a + 2)])) a := ⟨0, 0, _, xat_sf k0.1, xat_set k1 (by omega), hp.fr (frm_set (lo := a) (hi := a + 1) frm_rf (by omega) (by omega)) (by omega)⟩
  refine xrv (sp_Sta_startWith (n := 6) (by omega) hsh) ?_
  rintro h2 ⟨-, hs, fr2⟩
  refine hQ _ _ ⟨rfl, hs, ?_, ?_, fun b hb => ?_⟩
  · rw [fr2.1]
    have e : h1.1 = a + 1 + 1 + 1 + 4 := fr1.1
    show h1.1 = a + 1 + 6
    omega
  · rw [fr2.2.1]
    have e : h1.2.1 = S + 6 + 6 + 24 := fr1.2.1
    show h1.2.1 = S + 36
    omega
  · rw [fr2.2.2 b (by omega)]
    have hb1 : b ≠ a := by omega
    show va_up h1.2.2 a _ b = F b
    rw [up_ne hb1, fr1.2.2 b (by omega)]
    show va_up (va_up (va_up F (a + 1) _) a _) (a + 1 + 1) _ b = F b
    rw [up_ne (by omega), up_ne hb1, up_ne (by omega)]
theorem sp_Txt_init {h : xHp} {a : Nat} (h0 : xat h a (xob 6 (xdef 6))) (hN : h.1 = a + 1) : SpecA g_Txt_init [.ref a] h 1 80 (fun v h' => v = none ∧ isText h' a 0 (fun _ => 0) ∧ frA h h' a 1 80) := by
  refine SpecA.of 1 80 (by decide +kernel) (Nat.le_of_ble_eq_true rfl) (fun c hc => by cases hc) (fun v h' z => ⟨z.1, z.2.2.1, z.2.2.2.1⟩) (fun Q hQ => ?_)
  obtain ⟨N, S, F⟩ := h
  have hN : N = a + 1 := hN
  subst hN
  refine xgoal [] 100 ok_Txt_init ?_
  refine xpf h0 (Nat.le_of_ble_eq_true rfl) rfl ?_
  refine ⟨80, rfl, by decide, by show a + 1 + 1 ≤ a + 1 + 1; omega, by show S + 80 ≤ S + 80; omega, ?_⟩
  refine xpf (xat_new (xat_sf h0.1)) (Nat.le_of_ble_eq_true rfl) rfl ?_
  refine hQ _ _ ⟨rfl, ⟨by omega, xat_sf (by show a < a + 1 + 1; omega), _, xat_set (xat_nf (h := xset _ _ _)) (by show a + 1 ≠ a; omega), fun i hi => absurd hi (Nat.not_lt_zero i)⟩, rfl, rfl, fun b hb => ?_⟩
  have hb1 : b ≠ a := by omega
  show va_up (va_up (va_up F a _) (a + 1) _) a _ b = F b
  rw [up_ne hb1, up_ne (by omega), up_ne hb1]
theorem sp_TR_init {h : xHp} {a : Nat} (h0 : xat h a (xob 7 (xdef 7))) : SpecA g_TR_init [.ref a] h 0 0 (fun v h' => v = none ∧ (∃ p, xat h' a (xob 7 [.int p])) ∧ frA h h' a 0 0) := by
  refine SpecA.of 0 0 (by decide +kernel) (Nat.le_of_ble_eq_true rfl) (fun c hc => by cases hc) (fun v h' z => ⟨z.1, z.2.2.1, z.2.2.2.1⟩) (fun Q hQ => ?_)
  refine xgoal [] 100 ok_TR_init ?_
  refine xpf h0 (Nat.le_of_ble_eq_true rfl) rfl ?_
  exact hQ _ _ ⟨rfl, ⟨_, xat_sf h0.1⟩, rfl, rfl, fun b hb => up_ne (by omega)⟩
theorem sp_PR_init {h : xHp} {a : Nat} (h0 : xat h a (xob 3 (xdef 3))) (hN : h.1 = a + 1) : SpecA g_PR_init [.ref a] h 5 30 (fun v h' => v = none ∧ (isPrd h' a (nI 0) 0 ∧ shPoem h' (a + 1)) ∧ frA h h' a 5 30) := by
  refine SpecA.of 5 30 (by decide +kernel) (Nat.le_of_ble_eq_true rfl) (fun c hc => by cases hc) (fun v h' z => ⟨z.1, z.2.2.1, z.2.2.2.1⟩) (fun Q hQ => ?_)
  obtain ⟨N, S, F⟩ := h
  have hN : N = a + 1 := hN
  subst hN
  refine xgoal [] 100 ok_PR_init ?_
  refine ⟨by show a + 1 + 1 ≤ a + 1 + 5; omega, by show S + 6 ≤ S + 30; omega, ?_⟩
  refine ⟨4, 24, _, sp_Poem_init (a := a + 1) (xat_nf (h := (a + 1, S, F))) rfl, by show a + 1 + 1 + 4 ≤ a + 1 + 5; omega, by show S + 6 + 24 ≤ S + 30; omega, ?_⟩
  rintro h1 ⟨-, hp, fr1⟩
  have k0 : xat h1 a (xob 3 [.int 0, .null, .int 0]) := xat_sb (xat_new h0) (frA_sub (lo := 0) fr1 (Nat.le_refl _)) (by omega) (by omega)
  refine xpf k0 (Nat.le_of_ble_eq_true rfl) rfl ?_
  refine xpf (xat_sf k0.1) (Nat.le_of_ble_eq_true rfl) rfl ?_
  refine xpf (xat_sf k0.1) (Nat.le_of_ble_eq_true rfl) rfl ?_
  have e1 : h1.1 = a + 1 + 1 + 4 := fr1.1
  have e2 : h1.2.1 = S + 6 + 24 := fr1.2.1
  refine hQ _ _ ⟨rfl, ⟨xat_sf (h := xset _ _ _) k0.1, ((hp.fr (frm_set (lo := a) (hi := a + 1) (a := a) frm_rf (by omega) (by omega)) (by omega)).fr (frm_set (lo := a) (hi := a + 1) (a := a) frm_rf (by omega) (by omega)) (by omega)).fr (frm_set (lo := a) (hi := a + 1) (a := a) frm_rf (by omega) (by omega)) (by omega)⟩, by show h1.1 = a + 1 + 5; omega, by show h1.2.1 = S + 30; omega, fun b hb => ?_⟩
  have hb1 : b ≠ a := by omega
  show va_up (va_up (va_up h1.2.2 a _) a _) a _ b = F b
  rw [up_ne hb1, up_ne hb1, up_ne hb1, fr1.2.2 b (by omega)]
  show va_up F (a + 1) _ b = F b
  rw [up_ne (by omega)]
theorem sp_Sea_init {h : xHp} {a : Nat} (h0 : xat h a (xob 4 (xdef 4))) (hN : h.1 = a + 1) : SpecA g_Sea_init [.ref a] h 3 10086 (fun v h' => v = none ∧ shSea h' a ∧ frA h h' a 3 10086) := by
  refine SpecA.of 3 10086 (by decide +kernel) (Nat.le_of_ble_eq_true rfl) (fun c hc => by cases hc) (fun v h' z => ⟨z.1, z.2.2.1, z.2.2.2.1⟩) (fun Q hQ => ?_)
  obtain ⟨N, S, F⟩ := h
  have hN : N = a + 1 := hN
  subst hN
  refine xgoal [] 100 ok_Sea_init ?_
  refine xpf h0 (Nat.le_of_ble_eq_true rfl) rfl ?_
  refine xpf (xat_sf h0.1) (Nat.le_of_ble_eq_true rfl) rfl ?_
  refine xpf (xat_sf (h := xset _ _ _) h0.1) (Nat.le_of_ble_eq_true rfl) rfl ?_
  refine ⟨6, rfl, by decide, by show a + 1 + 1 ≤ a + 1 + 3; omega, by show S + 6 ≤ S + 10086; omega, ?_⟩
  refine xpf (xat_new (xat_sf (h := xset _ _ _) h0.1)) (Nat.le_of_ble_eq_true rfl) rfl ?_
  refine ⟨5040, rfl, by decide, by show a + 1 + 1 + 1 ≤ a + 1 + 3; omega, by show S + 6 + 5040 ≤ S + 10086; omega, ?_⟩
  refine xpf (xat_new (xat_sf (by show a < a + 1 + 1; omega))) (Nat.le_of_ble_eq_true rfl) rfl ?_
  refine ⟨5040, rfl, by decide, by show a + 1 + 1 + 1 + 1 ≤ a + 1 + 3; omega, by show S + 6 + 5040 + 5040 ≤ S + 10086; omega, ?_⟩
  refine xpf (xat_new (xat_sf (by show a < a + 1 + 1 + 1; omega))) (Nat.le_of_ble_eq_true rfl) rfl ?_
  refine hQ _ _ ⟨rfl, ⟨0, 0, 0, fun _ => 0, fun _ => 0, fun _ => 0, ?_, ?_, ?_, ?_⟩, rfl, by show S + 6 + 5040 + 5040 = S + 10086; omega, fun b hb => ?_⟩
  · exact xat_sf (by show a < a + 1 + 1 + 1 + 1; omega)
  · refine xat_set (xat_new (xat_set (xat_new (xat_set ?_ (by omega))) (by omega))) (by omega)
    exact xat_nf (h := xset (xset (xset (a + 1, S, F) a _) a _) a _)
  · refine xat_set (xat_new (xat_set ?_ (by omega))) (by omega)
    exact xat_nf (h := xset (xnew _ _ _) _ _)
  · refine xat_set ?_ (by omega)
    exact xat_nf (h := xset (xnew _ _ _) _ _)
  · have hb1 : b ≠ a := by omega
    show va_up (va_up (va_up (va_up (va_up (va_up (va_up (va_up (va_up F a _) a _) a _) (a + 1) _) a _) (a + 1 + 1) _) a _) (a + 1 + 1 + 1) _) a _ b = F b
    rw [up_ne hb1, up_ne (by omega), up_ne hb1, up_ne (by omega), up_ne hb1, up_ne (by omega), up_ne hb1, up_ne hb1, up_ne hb1]
theorem sp_Fit_init {h : xHp} {a : Nat} (h0 : xat h a (xob 0 (xdef 0))) (hN : h.1 = a + 1) : SpecA g_Fit_init [.ref a] h 3 200 (fun v h' => v = none ∧ shFit h' a ∧ frA h h' a 3 200) := by
  refine SpecA.of 3 200 (by decide +kernel) (Nat.le_of_ble_eq_true rfl) (fun c hc => by cases hc) (fun v h' z => ⟨z.1, z.2.2.1, z.2.2.2.1⟩) (fun Q hQ => ?_)
  obtain ⟨N, S, F⟩ := h
  have hN : N = a + 1 := hN
  subst hN
  refine xgoal [] 100 ok_Fit_init ?_
  refine xpf h0 (Nat.le_of_ble_eq_true rfl) rfl ?_
  refine ⟨64, rfl, by decide, by show a + 1 + 1 ≤ a + 1 + 3; omega, by show S + 64 ≤ S + 200; omega, ?_⟩
  refine xpf (xat_new (xat_sf h0.1)) (Nat.le_of_ble_eq_true rfl) rfl ?_
  refine ⟨8, rfl, by decide, by show a + 1 + 1 + 1 ≤ a + 1 + 3; omega, by show S + 64 + 8 ≤ S + 200; omega, ?_⟩
  refine xpf (xat_new (xat_sf (by show a < a + 1 + 1; omega))) (Nat.le_of_ble_eq_true rfl) rfl ?_
  refine ⟨128, rfl, by decide, by show a + 1 + 1 + 1 + 1 ≤ a + 1 + 3; omega, by show S + 64 + 8 + 128 ≤ S + 200; omega, ?_⟩
  refine xpf (xat_new (xat_sf (by show a < a + 1 + 1 + 1; omega))) (Nat.le_of_ble_eq_true rfl) rfl ?_
  refine hQ _ _ ⟨rfl, ⟨0, fun _ => 0, fun _ => 0, fun _ => 0, ?_, ?_, ?_, ?_⟩, rfl, by show S + 64 + 8 + 128 = S + 200; omega, fun b hb => ?_⟩
  · exact xat_sf (by show a < a + 1 + 1 + 1 + 1; omega)
  · refine xat_set (xat_new (xat_set (xat_new (xat_set ?_ (by omega))) (by omega))) (by omega)
    exact xat_nf (h := xset (a + 1, S, F) a _)
  · refine xat_set (xat_new (xat_set ?_ (by omega))) (by omega)
    exact xat_nf (h := xset (xnew _ _ _) _ _)
  · refine xat_set ?_ (by omega)
    exact xat_nf (h := xset (xnew _ _ _) _ _)
  · have hb1 : b ≠ a := by omega
    show va_up (va_up (va_up (va_up (va_up (va_up (va_up F a _) (a + 1) _) a _) (a + 1 + 1) _) a _) (a + 1 + 1 + 1) _) a _ b = F b
    rw [up_ne hb1, up_ne (by omega), up_ne hb1, up_ne (by omega), up_ne hb1, up_ne (by omega), up_ne hb1]
theorem sp_Hist_init {h : xHp} {a : Nat} (h0 : xat h a (xob 1 (xdef 1))) (hN : h.1 = a + 1) : SpecA g_Hist_init [.ref a] h 57 328 (fun v h' => v = none ∧ isHist h' a [] ∧ frA h h' a 57 328) := by
  refine SpecA.of 57 328 (by decide +kernel) (Nat.le_of_ble_eq_true rfl) (fun c hc => by cases hc) (fun v h' z => ⟨z.1, z.2.2.1, z.2.2.2.1⟩) (fun Q hQ => ?_)
  obtain ⟨N, S, F⟩ := h
  have hN : N = a + 1 := hN
  subst hN
  refine xgoal [(25, [0, 1])] 100 ok_Hist_init ?_
  refine xpf h0 (Nat.le_of_ble_eq_true rfl) rfl ?_
  refine xpf (xat_sf h0.1) (Nat.le_of_ble_eq_true rfl) rfl ?_
  refine ⟨8, rfl, by decide, by show a + 1 + 1 ≤ a + 1 + 57; omega, by show S + 8 ≤ S + 328; omega, ?_⟩
  refine xpf (xat_new (xat_sf (h := xset _ _ _) h0.1)) (Nat.le_of_ble_eq_true rfl) rfl ?_
  refine up_loop (P := fun i => ∀ (k : xHp) (f : Nat → Option Nat), k.1 = a + 2 + 7 * i → k.2.1 = S + 8 + 40 * i → (∀ b, b < a → k.2.2 b = F b) → xat k a (xob 1 [.int 0, .int 0, .ref (a + 1)]) → xat k (a + 1) (xra 8 f) → (∀ j, j < i → f j = some (a + 2 + 7 * j) ∧ shState k (a + 2 + 7 * j)) → xAt (a + 1 + 57, S + 328) g_Hist_init Q 25 [(0, .ref a), (1, .int (nI i))] [] k) 8 ?_ (fun i hi ih => ?_) 0 (Nat.zero_le _) _ (fun _ => none) rfl rfl (fun b hb => ?_) (xat_sf (by show a < a + 1 + 1; omega)) (xat_set (xat_nf (h := xset _ _ _)) (by show a + 1 ≠ a; omega)) (fun j hj => absurd hj (Nat.not_lt_zero j))
  · intro k f e1 e2 e3 k0 k1 hj
    refine xgoal [(25, [0, 1])] 100 ok_Hist_init ?_
    refine pk_le 8 8 (fun _ => ?_) (fun c => absurd c (by omega))
    exact hQ _ _ ⟨rfl, ⟨by decide, 0, by omega, k0, ⟨f, k1, fun j hj8 => (hj j hj8).1⟩, fun j hj8 => (hj j hj8).2, fun i σ hi => by cases hi⟩, e1, e2, e3⟩
  · intro k f e1 e2 e3 k0 k1 hj
    obtain ⟨N, S', F'⟩ := k
    have e1 : N = a + 2 + 7 * i := e1
    have e2 : S' = S + 8 + 40 * i := e2
    subst e1 e2
    refine xgoal [(25, [0, 1])] 100 ok_Hist_init ?_
    refine pk_le 8 i (fun c => absurd c (by omega)) (fun _ => ?_)
    refine xgf k0 rfl ?_
    refine ⟨by show a + 2 + 7 * i + 1 ≤ a + 1 + 57; omega, by show S + 8 + 40 * i + 4 ≤ S + 328; omega, ?_⟩
    refine ⟨6, 36, _, sp_Sta_init (a := a + 2 + 7 * i) (xat_nf (h := (a + 2 + 7 * i, S + 8 + 40 * i, F'))) rfl, by show a + 2 + 7 * i + 1 + 6 ≤ a + 1 + 57; omega, by show S + 8 + 40 * i + 4 + 36 ≤ S + 328; omega, ?_⟩
    rintro h1 ⟨-, hs, fr⟩
    have z1 : h1.1 = a + 2 + 7 * i + 1 + 6 := fr.1
    have z2 : h1.2.1 = S + 8 + 40 * i + 4 + 36 := fr.2.1
    have sb := frA_sub (lo := 0) fr (Nat.le_refl _)
    have w0 := xat_sb (xat_new k0) sb (by omega) (by omega)
    have w1 := xat_sb (xat_new k1) sb (by omega) (by omega)
    refine ⟨_, _, i, _, w1, ⟨rfl, hi, by decide⟩, hs.1, ?_⟩
    have ih := ih (xset h1 (a + 1) (xra 8 (va_up f i (some (a + 2 + 7 * i))))) _ (by show h1.1 = _; omega) (by show h1.2.1 = _; omega) (fun b hb => ?_) (xat_set w0 (by omega)) (xat_sf w1.1) (fun j hj2 => ?_)
    · rw [← nI_1 i] at ih
      exact ih
    · show va_up h1.2.2 (a + 1) _ b = F b
      rw [up_ne (by omega), fr.2.2 b (by omega)]
      show va_up F' (a + 2 + 7 * i) _ b = F b
      rw [up_ne (by omega)]
      exact e3 b hb
    · have fs : frm h1 (xset h1 (a + 1) (xra 8 (va_up f i (some (a + 2 + 7 * i))))) (a + 1) (a + 2) := frm_set frm_rf (by omega) (by omega)
      by_cases e : j = i
      · subst e
        exact ⟨va_up_self f j _, hs.sh.fr fs (by omega)⟩
      · obtain ⟨q1, q2⟩ := hj j (by omega)
        refine ⟨(va_up_ne f _ e).trans q1, (shState.sb (q2.sb (sub_new (lo := 0) (hi := a + 2 + 7 * i) sub_rf (Nat.le_refl _)) (by omega) (by omega)) sb (by omega) (by omega)).fr fs (by omega)⟩
  · have hb1 : b ≠ a := by omega
    show va_up (va_up (va_up (va_up F a _) a _) (a + 1) _) a _ b = F b
    rw [up_ne hb1, up_ne (by omega), up_ne hb1, up_ne hb1]
