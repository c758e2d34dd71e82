/-! THE REFERENCE'S CONSTRUCTOR -/
def lnM (c : Nat) : Nat := match c with
  | 1 => 1620
  | 2 => 80
  | _ => scN c
def ctM (h hk : xHp) (a j s : Nat) : Prop := hk.1 = a + 1 + j ∧ hk.2.1 = h.2.1 + s ∧ (∀ c, 1 ≤ c → c ≤ j → xat hk (a + c) (xia (lnM c) (fun _ => 0))) ∧ ∀ b, b < a → hk.2.2 b = h.2.2 b
theorem ctS {h hk : xHp} {a j s n : Nat} {e : xE} (hn : n = lnM (j + 1)) (c : ctM h hk a j s) : ctM h (xset (xnew hk n (xia n (fun _ => 0))) a e) a (j + 1) (s + n) := by
  obtain ⟨c1, c2, c3, c4⟩ := c
  refine ⟨congrArg (· + 1) c1, ?_, fun d d1 d2 => ?_, fun b hb => ?_⟩
  · show hk.2.1 + n = _
    omega
  · by_cases z : d = j + 1
    · subst z
      have e2 : a + (j + 1) = hk.1 := by omega
      rw [← hn, e2]
      exact xat_set xat_nf (by omega)
    · exact xat_set (xat_new (c3 d d1 (by omega))) (by omega)
  · show va_up (va_up hk.2.2 hk.1 _) a _ b = _
    rw [up_ne (by omega), up_ne (by omega)]
    exact c4 b hb
theorem sp_Mo_init {h : xHp} {a : Nat} (h0 : xat h a (xob 9 (xdef 9))) (hN : h.1 = a + 1) : SpecA g_Mo_init [.ref a] h 13 12134 (fun v h' => v = none ∧ isM h' a (st0 6, [], 0, fun _ => 0) ∧ frA h h' a 13 12134) := by
  refine SpecA.of 13 12134 (by decide +kernel) (Nat.le_of_ble_eq_true rfl) (fun c hc => by cases hc) (fun v h' z => ⟨z.1, z.2.2.1, z.2.2.2.1⟩) (fun Q hQ => ?_)
  obtain ⟨N, S, F⟩ := h
  have hN : N = a + 1 := hN
  subst hN
  have k0 : xat (a + 1, S, F) a (xob 9 [.null, .int 0, .null, .int 0, .null, .null, .null, .null, .null, .int 0, .null, .int 0, .int 0, .null, .null, .null, .null, .null]) := h0
  have c0 : ctM (a + 1, S, F) (a + 1, S, F) a 0 0 := ⟨rfl, rfl, fun d d1 d2 => absurd d1 (by omega), fun _ _ => rfl⟩
  refine xgoal [] 100 ok_Mo_init ?_
  refine ⟨1620, rfl, by decide, Nat.le_trans (Nat.le_of_eq (congrArg (· + 1) c0.1)) (by show a + 1 + 0 + 1 ≤ a + 1 + 13; omega), Nat.le_trans (Nat.le_of_eq (congrArg (· + 1620) c0.2.1)) (by show S + 0 + 1620 ≤ S + 12134; omega), ?_⟩
  refine xpf (xat_new k0) (Nat.le_of_ble_eq_true rfl) rfl ?_
  have k1 := xat_sf (e := xob 9 [.ref (a + 1), .int 0, .null, .int 0, .null, .null, .null, .null, .null, .int 0, .null, .int 0, .int 0, .null, .null, .null, .null, .null]) (xat_new (n := 1620) (e' := xia 1620 (fun _ => 0)) k0).1
  have c1 := ctS (e := xob 9 [.ref (a + 1), .int 0, .null, .int 0, .null, .null, .null, .null, .null, .int 0, .null, .int 0, .int 0, .null, .null, .null, .null, .null]) (n := 1620) rfl c0
  rw [show 0 + 1620 = 1620 from by omega] at c1
  refine ⟨80, rfl, by decide, Nat.le_trans (Nat.le_of_eq (congrArg (· + 1) c1.1)) (by show a + 1 + 1 + 1 ≤ a + 1 + 13; omega), Nat.le_trans (Nat.le_of_eq (congrArg (· + 80) c1.2.1)) (by show S + 1620 + 80 ≤ S + 12134; omega), ?_⟩
  refine xpf (xat_new k1) (Nat.le_of_ble_eq_true rfl) rfl ?_
  have k2 := xat_sf (e := xob 9 [.ref (a + 1), .int 0, .ref (a + 2), .int 0, .null, .null, .null, .null, .null, .int 0, .null, .int 0, .int 0, .null, .null, .null, .null, .null]) (xat_new (n := 80) (e' := xia 80 (fun _ => 0)) k1).1
  have c2 := ctS (e := xob 9 [.ref (a + 1), .int 0, .ref (a + 2), .int 0, .null, .null, .null, .null, .null, .int 0, .null, .int 0, .int 0, .null, .null, .null, .null, .null]) (n := 80) rfl c1
  rw [show 1620 + 80 = 1700 from by omega] at c2
  refine ⟨7, rfl, by decide, Nat.le_trans (Nat.le_of_eq (congrArg (· + 1) c2.1)) (by show a + 1 + 2 + 1 ≤ a + 1 + 13; omega), Nat.le_trans (Nat.le_of_eq (congrArg (· + 7) c2.2.1)) (by show S + 1700 + 7 ≤ S + 12134; omega), ?_⟩
  refine xpf (xat_new k2) (Nat.le_of_ble_eq_true rfl) rfl ?_
  have k3 := xat_sf (e := xob 9 [.ref (a + 1), .int 0, .ref (a + 2), .int 0, .ref (a + 3), .null, .null, .null, .null, .int 0, .null, .int 0, .int 0, .null, .null, .null, .null, .null]) (xat_new (n := 7) (e' := xia 7 (fun _ => 0)) k2).1
  have c3 := ctS (e := xob 9 [.ref (a + 1), .int 0, .ref (a + 2), .int 0, .ref (a + 3), .null, .null, .null, .null, .int 0, .null, .int 0, .int 0, .null, .null, .null, .null, .null]) (n := 7) rfl c2
  rw [show 1700 + 7 = 1707 from by omega] at c3
  refine ⟨7, rfl, by decide, Nat.le_trans (Nat.le_of_eq (congrArg (· + 1) c3.1)) (by show a + 1 + 3 + 1 ≤ a + 1 + 13; omega), Nat.le_trans (Nat.le_of_eq (congrArg (· + 7) c3.2.1)) (by show S + 1707 + 7 ≤ S + 12134; omega), ?_⟩
  refine xpf (xat_new k3) (Nat.le_of_ble_eq_true rfl) rfl ?_
  have k4 := xat_sf (e := xob 9 [.ref (a + 1), .int 0, .ref (a + 2), .int 0, .ref (a + 3), .ref (a + 4), .null, .null, .null, .int 0, .null, .int 0, .int 0, .null, .null, .null, .null, .null]) (xat_new (n := 7) (e' := xia 7 (fun _ => 0)) k3).1
  have c4 := ctS (e := xob 9 [.ref (a + 1), .int 0, .ref (a + 2), .int 0, .ref (a + 3), .ref (a + 4), .null, .null, .null, .int 0, .null, .int 0, .int 0, .null, .null, .null, .null, .null]) (n := 7) rfl c3
  rw [show 1707 + 7 = 1714 from by omega] at c4
  refine ⟨7, rfl, by decide, Nat.le_trans (Nat.le_of_eq (congrArg (· + 1) c4.1)) (by show a + 1 + 4 + 1 ≤ a + 1 + 13; omega), Nat.le_trans (Nat.le_of_eq (congrArg (· + 7) c4.2.1)) (by show S + 1714 + 7 ≤ S + 12134; omega), ?_⟩
  refine xpf (xat_new k4) (Nat.le_of_ble_eq_true rfl) rfl ?_
  have k5 := xat_sf (e := xob 9 [.ref (a + 1), .int 0, .ref (a + 2), .int 0, .ref (a + 3), .ref (a + 4), .ref (a + 5), .null, .null, .int 0, .null, .int 0, .int 0, .null, .null, .null, .null, .null]) (xat_new (n := 7) (e' := xia 7 (fun _ => 0)) k4).1
  have c5 := ctS (e := xob 9 [.ref (a + 1), .int 0, .ref (a + 2), .int 0, .ref (a + 3), .ref (a + 4), .ref (a + 5), .null, .null, .int 0, .null, .int 0, .int 0, .null, .null, .null, .null, .null]) (n := 7) rfl c4
  rw [show 1714 + 7 = 1721 from by omega] at c5
  refine ⟨5040, rfl, by decide, Nat.le_trans (Nat.le_of_eq (congrArg (· + 1) c5.1)) (by show a + 1 + 5 + 1 ≤ a + 1 + 13; omega), Nat.le_trans (Nat.le_of_eq (congrArg (· + 5040) c5.2.1)) (by show S + 1721 + 5040 ≤ S + 12134; omega), ?_⟩
  refine xpf (xat_new k5) (Nat.le_of_ble_eq_true rfl) rfl ?_
  have k6 := xat_sf (e := xob 9 [.ref (a + 1), .int 0, .ref (a + 2), .int 0, .ref (a + 3), .ref (a + 4), .ref (a + 5), .ref (a + 6), .null, .int 0, .null, .int 0, .int 0, .null, .null, .null, .null, .null]) (xat_new (n := 5040) (e' := xia 5040 (fun _ => 0)) k5).1
  have c6 := ctS (e := xob 9 [.ref (a + 1), .int 0, .ref (a + 2), .int 0, .ref (a + 3), .ref (a + 4), .ref (a + 5), .ref (a + 6), .null, .int 0, .null, .int 0, .int 0, .null, .null, .null, .null, .null]) (n := 5040) rfl c5
  rw [show 1721 + 5040 = 6761 from by omega] at c6
  refine ⟨5040, rfl, by decide, Nat.le_trans (Nat.le_of_eq (congrArg (· + 1) c6.1)) (by show a + 1 + 6 + 1 ≤ a + 1 + 13; omega), Nat.le_trans (Nat.le_of_eq (congrArg (· + 5040) c6.2.1)) (by show S + 6761 + 5040 ≤ S + 12134; omega), ?_⟩
  refine xpf (xat_new k6) (Nat.le_of_ble_eq_true rfl) rfl ?_
  have k7 := xat_sf (e := xob 9 [.ref (a + 1), .int 0, .ref (a + 2), .int 0, .ref (a + 3), .ref (a + 4), .ref (a + 5), .ref (a + 6), .ref (a + 7), .int 0, .null, .int 0, .int 0, .null, .null, .null, .null, .null]) (xat_new (n := 5040) (e' := xia 5040 (fun _ => 0)) k6).1
  have c7 := ctS (e := xob 9 [.ref (a + 1), .int 0, .ref (a + 2), .int 0, .ref (a + 3), .ref (a + 4), .ref (a + 5), .ref (a + 6), .ref (a + 7), .int 0, .null, .int 0, .int 0, .null, .null, .null, .null, .null]) (n := 5040) rfl c6
  rw [show 6761 + 5040 = 11801 from by omega] at c7
  refine ⟨130, rfl, by decide, Nat.le_trans (Nat.le_of_eq (congrArg (· + 1) c7.1)) (by show a + 1 + 7 + 1 ≤ a + 1 + 13; omega), Nat.le_trans (Nat.le_of_eq (congrArg (· + 130) c7.2.1)) (by show S + 11801 + 130 ≤ S + 12134; omega), ?_⟩
  refine xpf (xat_new k7) (Nat.le_of_ble_eq_true rfl) rfl ?_
  have k8 := xat_sf (e := xob 9 [.ref (a + 1), .int 0, .ref (a + 2), .int 0, .ref (a + 3), .ref (a + 4), .ref (a + 5), .ref (a + 6), .ref (a + 7), .int 0, .ref (a + 8), .int 0, .int 0, .null, .null, .null, .null, .null]) (xat_new (n := 130) (e' := xia 130 (fun _ => 0)) k7).1
  have c8 := ctS (e := xob 9 [.ref (a + 1), .int 0, .ref (a + 2), .int 0, .ref (a + 3), .ref (a + 4), .ref (a + 5), .ref (a + 6), .ref (a + 7), .int 0, .ref (a + 8), .int 0, .int 0, .null, .null, .null, .null, .null]) (n := 130) rfl c7
  rw [show 11801 + 130 = 11931 from by omega] at c8
  refine ⟨49, rfl, by decide, Nat.le_trans (Nat.le_of_eq (congrArg (· + 1) c8.1)) (by show a + 1 + 8 + 1 ≤ a + 1 + 13; omega), Nat.le_trans (Nat.le_of_eq (congrArg (· + 49) c8.2.1)) (by show S + 11931 + 49 ≤ S + 12134; omega), ?_⟩
  refine xpf (xat_new k8) (Nat.le_of_ble_eq_true rfl) rfl ?_
  have k9 := xat_sf (e := xob 9 [.ref (a + 1), .int 0, .ref (a + 2), .int 0, .ref (a + 3), .ref (a + 4), .ref (a + 5), .ref (a + 6), .ref (a + 7), .int 0, .ref (a + 8), .int 0, .int 0, .ref (a + 9), .null, .null, .null, .null]) (xat_new (n := 49) (e' := xia 49 (fun _ => 0)) k8).1
  have c9 := ctS (e := xob 9 [.ref (a + 1), .int 0, .ref (a + 2), .int 0, .ref (a + 3), .ref (a + 4), .ref (a + 5), .ref (a + 6), .ref (a + 7), .int 0, .ref (a + 8), .int 0, .int 0, .ref (a + 9), .null, .null, .null, .null]) (n := 49) rfl c8
  rw [show 11931 + 49 = 11980 from by omega] at c9
  refine ⟨128, rfl, by decide, Nat.le_trans (Nat.le_of_eq (congrArg (· + 1) c9.1)) (by show a + 1 + 9 + 1 ≤ a + 1 + 13; omega), Nat.le_trans (Nat.le_of_eq (congrArg (· + 128) c9.2.1)) (by show S + 11980 + 128 ≤ S + 12134; omega), ?_⟩
  refine xpf (xat_new k9) (Nat.le_of_ble_eq_true rfl) rfl ?_
  have k10 := xat_sf (e := xob 9 [.ref (a + 1), .int 0, .ref (a + 2), .int 0, .ref (a + 3), .ref (a + 4), .ref (a + 5), .ref (a + 6), .ref (a + 7), .int 0, .ref (a + 8), .int 0, .int 0, .ref (a + 9), .ref (a + 10), .null, .null, .null]) (xat_new (n := 128) (e' := xia 128 (fun _ => 0)) k9).1
  have c10 := ctS (e := xob 9 [.ref (a + 1), .int 0, .ref (a + 2), .int 0, .ref (a + 3), .ref (a + 4), .ref (a + 5), .ref (a + 6), .ref (a + 7), .int 0, .ref (a + 8), .int 0, .int 0, .ref (a + 9), .ref (a + 10), .null, .null, .null]) (n := 128) rfl c9
  rw [show 11980 + 128 = 12108 from by omega] at c10
  refine ⟨7, rfl, by decide, Nat.le_trans (Nat.le_of_eq (congrArg (· + 1) c10.1)) (by show a + 1 + 10 + 1 ≤ a + 1 + 13; omega), Nat.le_trans (Nat.le_of_eq (congrArg (· + 7) c10.2.1)) (by show S + 12108 + 7 ≤ S + 12134; omega), ?_⟩
  refine xpf (xat_new k10) (Nat.le_of_ble_eq_true rfl) rfl ?_
  have k11 := xat_sf (e := xob 9 [.ref (a + 1), .int 0, .ref (a + 2), .int 0, .ref (a + 3), .ref (a + 4), .ref (a + 5), .ref (a + 6), .ref (a + 7), .int 0, .ref (a + 8), .int 0, .int 0, .ref (a + 9), .ref (a + 10), .ref (a + 11), .null, .null]) (xat_new (n := 7) (e' := xia 7 (fun _ => 0)) k10).1
  have c11 := ctS (e := xob 9 [.ref (a + 1), .int 0, .ref (a + 2), .int 0, .ref (a + 3), .ref (a + 4), .ref (a + 5), .ref (a + 6), .ref (a + 7), .int 0, .ref (a + 8), .int 0, .int 0, .ref (a + 9), .ref (a + 10), .ref (a + 11), .null, .null]) (n := 7) rfl c10
  rw [show 12108 + 7 = 12115 from by omega] at c11
  refine ⟨7, rfl, by decide, Nat.le_trans (Nat.le_of_eq (congrArg (· + 1) c11.1)) (by show a + 1 + 11 + 1 ≤ a + 1 + 13; omega), Nat.le_trans (Nat.le_of_eq (congrArg (· + 7) c11.2.1)) (by show S + 12115 + 7 ≤ S + 12134; omega), ?_⟩
  refine xpf (xat_new k11) (Nat.le_of_ble_eq_true rfl) rfl ?_
  have k12 := xat_sf (e := xob 9 [.ref (a + 1), .int 0, .ref (a + 2), .int 0, .ref (a + 3), .ref (a + 4), .ref (a + 5), .ref (a + 6), .ref (a + 7), .int 0, .ref (a + 8), .int 0, .int 0, .ref (a + 9), .ref (a + 10), .ref (a + 11), .ref (a + 12), .null]) (xat_new (n := 7) (e' := xia 7 (fun _ => 0)) k11).1
  have c12 := ctS (e := xob 9 [.ref (a + 1), .int 0, .ref (a + 2), .int 0, .ref (a + 3), .ref (a + 4), .ref (a + 5), .ref (a + 6), .ref (a + 7), .int 0, .ref (a + 8), .int 0, .int 0, .ref (a + 9), .ref (a + 10), .ref (a + 11), .ref (a + 12), .null]) (n := 7) rfl c11
  rw [show 12115 + 7 = 12122 from by omega] at c12
  refine ⟨12, rfl, by decide, Nat.le_trans (Nat.le_of_eq (congrArg (· + 1) c12.1)) (by show a + 1 + 12 + 1 ≤ a + 1 + 13; omega), Nat.le_trans (Nat.le_of_eq (congrArg (· + 12) c12.2.1)) (by show S + 12122 + 12 ≤ S + 12134; omega), ?_⟩
  refine xpf (xat_new k12) (Nat.le_of_ble_eq_true rfl) rfl ?_
  have k13 := xat_sf (e := xob 9 [.ref (a + 1), .int 0, .ref (a + 2), .int 0, .ref (a + 3), .ref (a + 4), .ref (a + 5), .ref (a + 6), .ref (a + 7), .int 0, .ref (a + 8), .int 0, .int 0, .ref (a + 9), .ref (a + 10), .ref (a + 11), .ref (a + 12), .ref (a + 13)]) (xat_new (n := 12) (e' := xia 12 (fun _ => 0)) k12).1
  have c13 := ctS (e := xob 9 [.ref (a + 1), .int 0, .ref (a + 2), .int 0, .ref (a + 3), .ref (a + 4), .ref (a + 5), .ref (a + 6), .ref (a + 7), .int 0, .ref (a + 8), .int 0, .int 0, .ref (a + 9), .ref (a + 10), .ref (a + 11), .ref (a + 12), .ref (a + 13)]) (n := 12) rfl c12
  rw [show 12122 + 12 = 12134 from by omega] at c13
  have kO : xat _ a (obM a (nI 0) (nI 0) (nI 0) (nI 0) (nI 0)) := k13
  refine xrv (sp_Mo_resets (m := 6) ⟨_, _, _, _, _, kO⟩ (c13.2.2.1 1 (Nat.le_refl _) (by omega))) ?_
  rintro h2 ⟨-, ⟨F2, g2, r1, r2, r3, r4⟩, fr2⟩
  have cc := c13
  refine hQ _ _ ⟨rfl, ⟨F2, fun _ => 0, ⟨nI 0, nI 0, nI 0, xat_fr kO fr2 (by omega)⟩, g2, ⟨pg0.mpr ⟨r1, fun i hi => ?_, fun r hr i hi => ?_, r4 50 (by omega), fun s hs => absurd hs (Nat.not_lt_zero s), fun s hs => absurd hs (Nat.not_lt_zero s), r4 163 (by omega), fun l hl => absurd hl (Nat.not_lt_zero l), fun l hl => absurd hl (Nat.not_lt_zero l)⟩, ⟨Nat.zero_le _, fun j τ hj => ?_⟩⟩, ⟨xat_fr (cc.2.2.1 2 (by omega) (by omega)) fr2 (by omega), fun i hi => absurd hi (Nat.not_lt_zero i)⟩, fun d d1 d2 => ⟨fun _ => 0, ?_⟩⟩, ?_, ?_, fun b hb => ?_⟩
  · have hi : i < 6 := hi
    exact r2 i (by omega)
  · have hi : i < 6 := hi
    rw [show 8 + 7 * r + i = 8 + (7 * r + i) by omega, r3 _ (by omega), show (7 * r + i) % 7 = i by omega]
    rfl
  · cases hj
  · have hl : lnM d = scN d := by
      unfold lnM
      split
      · omega
      · omega
      · rfl
    rw [← hl]
    exact xat_fr (cc.2.2.1 d (by omega) d2) fr2 (by omega)
  · exact fr2.1.trans (cc.1.trans rfl)
  · exact fr2.2.1.trans cc.2.1
  · exact (fr2.2.2 b (by omega)).trans (cc.2.2.2 b hb)
