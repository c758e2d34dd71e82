/-! THE CLASS'S OBJECT -/
def isTV (h : xHp) (a : Nat) (σ : Sv) (l : List Sv) (T : Nat) (t : Nat → Nat) : Prop :=
  xat h a (xob 8 [.ref (a + 1), .ref (a + 8), .ref (a + 66), .ref (a + 68), .ref (a + 74), .ref (a + 75), .ref (a + 79), .ref (a + 83)]) ∧ isState h (a + 1) σ ∧ isHist h (a + 8) l ∧ isText h (a + 66) T t ∧
  ((∃ n pos, isPrd h (a + 68) n pos) ∧ shPoem h (a + 69)) ∧ (∃ p, xat h (a + 74) (xob 7 [.int p])) ∧ shSea h (a + 75) ∧ shFit h (a + 79) ∧ ∃ f, xat h (a + 83) (xia 12 f)
theorem sp_TV_init {h : xHp} {a : Nat} (h0 : xat h a (xob 8 (xdef 8))) (hN : h.1 = a + 1) : SpecA g_TV_init [.ref a] h 83 10795 (fun v h' => v = none ∧ isTV h' a (st0 6) [] 0 (fun _ => 0) ∧ frA h h' a 83 10795) := by
  refine SpecA.of 83 10795 (by decide +kernel) (Nat.le_of_ble_eq_true rfl) (fun c hc => by cases hc) (fun v h' z => ⟨z.1, z.2.2.1, z.2.2.2.1⟩) (fun Q hQ => ?_)
  obtain ⟨N, S, F⟩ := h
  have hN : N = a + 1 := hN
  subst hN
  refine xgoal [] 100 ok_TV_init ?_
  refine ⟨by show a + 1 + 1 ≤ a + 1 + 83; omega, by show S + 0 + 4 ≤ S + 10795; omega, ?_⟩
  refine ⟨6, 36, _, sp_Sta_init (a := a + 1) (xat_nf (h := (a + 1, S, F))) rfl, by show a + 1 + 1 + 6 ≤ a + 1 + 83; omega, by show S + 0 + 4 + 36 ≤ S + 10795; omega, ?_⟩
  rintro ⟨N1, S1, F1⟩ ⟨-, p1, fr1⟩
  have zN : N1 = a + 8 := fr1.1
  have zS : S1 = S + 40 := fr1.2.1.trans (by show S + 0 + 4 + 36 = S + 40; omega)
  subst zN zS
  have k1 : xat (a + 8, S + 40, F1) a (xob 8 [.null, .null, .null, .null, .null, .null, .null, .null]) := xat_sb (xat_new h0) (frA_sub (lo := 0) fr1 (Nat.le_refl _)) (by omega) (by omega)
  refine xpf k1 (Nat.le_of_ble_eq_true rfl) rfl ?_
  refine ⟨by show a + 8 + 1 ≤ a + 1 + 83; omega, by show S + 40 + 3 ≤ S + 10795; omega, ?_⟩
  refine ⟨57, 328, _, sp_Hist_init (a := a + 8) (xat_nf (h := xset _ _ _)) rfl, by show a + 8 + 1 + 57 ≤ a + 1 + 83; omega, by show S + 40 + 3 + 328 ≤ S + 10795; omega, ?_⟩
  rintro ⟨N2, S2, F2⟩ ⟨-, p2, fr2⟩
  have zN : N2 = a + 66 := fr2.1
  have zS : S2 = S + 371 := fr2.2.1.trans (by show S + 40 + 3 + 328 = S + 371; omega)
  subst zN zS
  have k2 : xat (a + 66, S + 371, F2) a (xob 8 [.ref (a + 1), .null, .null, .null, .null, .null, .null, .null]) := xat_sb (xat_new (xat_sf k1.1)) (frA_sub (lo := 0) fr2 (Nat.le_refl _)) (by omega) (by omega)
  have u2 : sub (a + 8, S + 40, F1) (a + 66, S + 371, F2) (a + 1) (a + 8) := sub_tr (sub_new (sub_set sub_rf (by omega)) (Nat.le_refl _)) (frA_sub (lo := 0) fr2 (Nat.le_refl (a + 8))) (by omega) (Nat.le_refl _)
  refine xpf k2 (Nat.le_of_ble_eq_true rfl) rfl ?_
  refine ⟨by show a + 66 + 1 ≤ a + 1 + 83; omega, by show S + 371 + 2 ≤ S + 10795; omega, ?_⟩
  refine ⟨1, 80, _, sp_Txt_init (a := a + 66) (xat_nf (h := xset _ _ _)) rfl, by show a + 66 + 1 + 1 ≤ a + 1 + 83; omega, by show S + 371 + 2 + 80 ≤ S + 10795; omega, ?_⟩
  rintro ⟨N3, S3, F3⟩ ⟨-, p3, fr3⟩
  have zN : N3 = a + 68 := fr3.1
  have zS : S3 = S + 453 := fr3.2.1.trans (by show S + 371 + 2 + 80 = S + 453; omega)
  subst zN zS
  have k3 : xat (a + 68, S + 453, F3) a (xob 8 [.ref (a + 1), .ref (a + 8), .null, .null, .null, .null, .null, .null]) := xat_sb (xat_new (xat_sf k2.1)) (frA_sub (lo := 0) fr3 (Nat.le_refl _)) (by omega) (by omega)
  have u3 : sub (a + 66, S + 371, F2) (a + 68, S + 453, F3) (a + 1) (a + 66) := sub_tr (sub_new (sub_set sub_rf (by omega)) (Nat.le_refl _)) (frA_sub (lo := 0) fr3 (Nat.le_refl (a + 66))) (by omega) (Nat.le_refl _)
  refine xpf k3 (Nat.le_of_ble_eq_true rfl) rfl ?_
  refine ⟨by show a + 68 + 1 ≤ a + 1 + 83; omega, by show S + 453 + 3 ≤ S + 10795; omega, ?_⟩
  refine ⟨5, 30, _, sp_PR_init (a := a + 68) (xat_nf (h := xset _ _ _)) rfl, by show a + 68 + 1 + 5 ≤ a + 1 + 83; omega, by show S + 453 + 3 + 30 ≤ S + 10795; omega, ?_⟩
  rintro ⟨N4, S4, F4⟩ ⟨-, p4, fr4⟩
  have zN : N4 = a + 74 := fr4.1
  have zS : S4 = S + 486 := fr4.2.1.trans (by show S + 453 + 3 + 30 = S + 486; omega)
  subst zN zS
  have k4 : xat (a + 74, S + 486, F4) a (xob 8 [.ref (a + 1), .ref (a + 8), .ref (a + 66), .null, .null, .null, .null, .null]) := xat_sb (xat_new (xat_sf k3.1)) (frA_sub (lo := 0) fr4 (Nat.le_refl _)) (by omega) (by omega)
  have u4 : sub (a + 68, S + 453, F3) (a + 74, S + 486, F4) (a + 1) (a + 68) := sub_tr (sub_new (sub_set sub_rf (by omega)) (Nat.le_refl _)) (frA_sub (lo := 0) fr4 (Nat.le_refl (a + 68))) (by omega) (Nat.le_refl _)
  refine xpf k4 (Nat.le_of_ble_eq_true rfl) rfl ?_
  refine ⟨by show a + 74 + 1 ≤ a + 1 + 83; omega, by show S + 486 + 1 ≤ S + 10795; omega, ?_⟩
  refine ⟨0, 0, _, sp_TR_init (a := a + 74) (xat_nf (h := xset _ _ _)), by show a + 74 + 1 + 0 ≤ a + 1 + 83; omega, by show S + 486 + 1 + 0 ≤ S + 10795; omega, ?_⟩
  rintro ⟨N5, S5, F5⟩ ⟨-, p5, fr5⟩
  have zN : N5 = a + 75 := fr5.1
  have zS : S5 = S + 487 := fr5.2.1.trans (by show S + 486 + 1 + 0 = S + 487; omega)
  subst zN zS
  have k5 : xat (a + 75, S + 487, F5) a (xob 8 [.ref (a + 1), .ref (a + 8), .ref (a + 66), .ref (a + 68), .null, .null, .null, .null]) := xat_sb (xat_new (xat_sf k4.1)) (frA_sub (lo := 0) fr5 (Nat.le_refl _)) (by omega) (by omega)
  have u5 : sub (a + 74, S + 486, F4) (a + 75, S + 487, F5) (a + 1) (a + 74) := sub_tr (sub_new (sub_set sub_rf (by omega)) (Nat.le_refl _)) (frA_sub (lo := 0) fr5 (Nat.le_refl (a + 74))) (by omega) (Nat.le_refl _)
  refine xpf k5 (Nat.le_of_ble_eq_true rfl) rfl ?_
  refine ⟨by show a + 75 + 1 ≤ a + 1 + 83; omega, by show S + 487 + 6 ≤ S + 10795; omega, ?_⟩
  refine ⟨3, 10086, _, sp_Sea_init (a := a + 75) (xat_nf (h := xset _ _ _)) rfl, by show a + 75 + 1 + 3 ≤ a + 1 + 83; omega, by show S + 487 + 6 + 10086 ≤ S + 10795; omega, ?_⟩
  rintro ⟨N6, S6, F6⟩ ⟨-, p6, fr6⟩
  have zN : N6 = a + 79 := fr6.1
  have zS : S6 = S + 10579 := fr6.2.1.trans (by show S + 487 + 6 + 10086 = S + 10579; omega)
  subst zN zS
  have k6 : xat (a + 79, S + 10579, F6) a (xob 8 [.ref (a + 1), .ref (a + 8), .ref (a + 66), .ref (a + 68), .ref (a + 74), .null, .null, .null]) := xat_sb (xat_new (xat_sf k5.1)) (frA_sub (lo := 0) fr6 (Nat.le_refl _)) (by omega) (by omega)
  have u6 : sub (a + 75, S + 487, F5) (a + 79, S + 10579, F6) (a + 1) (a + 75) := sub_tr (sub_new (sub_set sub_rf (by omega)) (Nat.le_refl _)) (frA_sub (lo := 0) fr6 (Nat.le_refl (a + 75))) (by omega) (Nat.le_refl _)
  refine xpf k6 (Nat.le_of_ble_eq_true rfl) rfl ?_
  refine ⟨by show a + 79 + 1 ≤ a + 1 + 83; omega, by show S + 10579 + 4 ≤ S + 10795; omega, ?_⟩
  refine ⟨3, 200, _, sp_Fit_init (a := a + 79) (xat_nf (h := xset _ _ _)) rfl, by show a + 79 + 1 + 3 ≤ a + 1 + 83; omega, by show S + 10579 + 4 + 200 ≤ S + 10795; omega, ?_⟩
  rintro ⟨N7, S7, F7⟩ ⟨-, p7, fr7⟩
  have zN : N7 = a + 83 := fr7.1
  have zS : S7 = S + 10783 := fr7.2.1.trans (by show S + 10579 + 4 + 200 = S + 10783; omega)
  subst zN zS
  have k7 : xat (a + 83, S + 10783, F7) a (xob 8 [.ref (a + 1), .ref (a + 8), .ref (a + 66), .ref (a + 68), .ref (a + 74), .ref (a + 75), .null, .null]) := xat_sb (xat_new (xat_sf k6.1)) (frA_sub (lo := 0) fr7 (Nat.le_refl _)) (by omega) (by omega)
  have u7 : sub (a + 79, S + 10579, F6) (a + 83, S + 10783, F7) (a + 1) (a + 79) := sub_tr (sub_new (sub_set sub_rf (by omega)) (Nat.le_refl _)) (frA_sub (lo := 0) fr7 (Nat.le_refl (a + 79))) (by omega) (Nat.le_refl _)
  refine xpf k7 (Nat.le_of_ble_eq_true rfl) rfl ?_
  refine ⟨12, rfl, by decide, by show a + 83 + 1 ≤ a + 1 + 83; omega, by show S + 10783 + 12 ≤ S + 10795; omega, ?_⟩
  refine xpf (xat_new (xat_sf k7.1)) (Nat.le_of_ble_eq_true rfl) rfl ?_
  have v8 : sub (a + 83, S + 10783, F7) (xset (xnew (xset (a + 83, S + 10783, F7) a (xob 8 [.ref (a + 1), .ref (a + 8), .ref (a + 66), .ref (a + 68), .ref (a + 74), .ref (a + 75), .ref (a + 79), .null])) 12 (xia 12 (fun _ => 0))) a (xob 8 [.ref (a + 1), .ref (a + 8), .ref (a + 66), .ref (a + 68), .ref (a + 74), .ref (a + 75), .ref (a + 79), .ref (a + 83)])) (a + 1) (a + 83) := sub_set (sub_new (sub_set sub_rf (by omega)) (Nat.le_refl _)) (by omega)
  have v7 := sub_tr u7 v8 (Nat.le_refl _) (show a + 79 ≤ a + 83 by omega)
  have v6 := sub_tr u6 v7 (Nat.le_refl _) (show a + 75 ≤ a + 79 by omega)
  have v5 := sub_tr u5 v6 (Nat.le_refl _) (show a + 74 ≤ a + 75 by omega)
  have v4 := sub_tr u4 v5 (Nat.le_refl _) (show a + 68 ≤ a + 74 by omega)
  have v3 := sub_tr u3 v4 (Nat.le_refl _) (show a + 66 ≤ a + 68 by omega)
  have v2 := sub_tr u2 v3 (Nat.le_refl _) (show a + 8 ≤ a + 66 by omega)
  refine hQ _ _ ⟨rfl, ⟨xat_sf (by show a < a + 83 + 1; omega), p1.sb v2 (by omega) (by omega), p2.sb v3 (by omega) (by omega), p3.sb v4 (by omega) (by omega), ⟨⟨_, _, xat_sb p4.1 v5 (by omega) (by omega)⟩, p4.2.sb v5 (by omega) (by omega)⟩, ⟨_, xat_sb p5.choose_spec v6 (by omega) (by omega)⟩, p6.sb v7 (by omega) (by omega), p7.sb v8 (by omega) (by omega), ⟨_, xat_set (xat_nf (h := xset _ _ _)) (by show a + 83 ≠ a; omega)⟩⟩, rfl, by show S + 10783 + 12 = S + 10795; omega, fun b hb => ?_⟩
  have hb1 : b ≠ a := by omega
  show va_up (va_up (va_up F7 a _) (a + 83) _) a _ b = F b
  rw [up_ne hb1, up_ne (by omega), up_ne hb1]
  refine (fr7.2.2 b (by omega)).trans ?_
  show va_up (va_up F6 a _) (a + 79) _ b = F b
  rw [up_ne (by omega), up_ne hb1]
  refine (fr6.2.2 b (by omega)).trans ?_
  show va_up (va_up F5 a _) (a + 75) _ b = F b
  rw [up_ne (by omega), up_ne hb1]
  refine (fr5.2.2 b (by omega)).trans ?_
  show va_up (va_up F4 a _) (a + 74) _ b = F b
  rw [up_ne (by omega), up_ne hb1]
  refine (fr4.2.2 b (by omega)).trans ?_
  show va_up (va_up F3 a _) (a + 68) _ b = F b
  rw [up_ne (by omega), up_ne hb1]
  refine (fr3.2.2 b (by omega)).trans ?_
  show va_up (va_up F2 a _) (a + 66) _ b = F b
  rw [up_ne (by omega), up_ne hb1]
  refine (fr2.2.2 b (by omega)).trans ?_
  show va_up (va_up F1 a _) (a + 8) _ b = F b
  rw [up_ne (by omega), up_ne hb1]
  refine (fr1.2.2 b (by omega)).trans ?_
  show va_up F (a + 1) _ b = F b
  rw [up_ne (by omega)]
