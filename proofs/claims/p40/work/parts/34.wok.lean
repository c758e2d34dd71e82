/-! EVERY CALL KEEPS THE STATE IN ORDER -/
theorem wok_gd {o : Option Nat} {ω : Wv} {k : Nat → Int32 × Wv} (h : wok ω) (hk : ∀ r, o = some r → wok (k r).2) : wok (gd o ω k).2 := by
  cases ho : o with
  | none => exact h
  | some r => exact hk r ho
theorem ix_l {m r : Nat} {x : Int32} (h : ix m x = some r) : r < m := (ix_some h).2
theorem sok_P {σ : Sv} {p : Pv} (h : sok σ) (hp : pok (sN σ) p) : sok (withP σ p) := ⟨h.1, h.2.1, h.2.2.1, h.2.2.2.1, hp⟩
theorem sok_R {σ : Sv} {r : Nat} {f : Nat → Nat} (h : sok σ) (hf : PM (sN σ) f) : sok (setR σ r f) := ⟨h.1, h.2.1, h.2.2.1, fun q hq => by
  show PM (sN σ) (if q = r then f else sR σ q)
  split
  · exact hf
  · exact h.2.2.2.1 q hq, h.2.2.2.2⟩
theorem sok_0 {m : Nat} (h1 : 2 ≤ m) (h2 : m ≤ 7) : sok (st0 m) := ⟨h1, h2, fun i _ => by show i % 4 < 4; omega, fun _ _ => PM_id m, by show 0 ≤ 8; omega, fun s hs => absurd hs (Nat.not_lt_zero s), fun s hs => absurd hs (Nat.not_lt_zero s), by show 0 ≤ 4; omega, fun l hl => absurd hl (Nat.not_lt_zero l), fun l hl => absurd hl (Nat.not_lt_zero l)⟩
theorem wok_0 : wok (st0 6, [], 0, fun _ => 0) := ⟨sok_0 (by omega) (by omega), fun τ h => (nomatch h), by show 0 ≤ 80; omega, fun i hi => absurd hi (Nat.not_lt_zero i)⟩
theorem wok_sto {ω : Wv} {r : Nat} {f : Nat → Nat} (k : wok ω) (hf : PM (wN ω) f) : wok (sto ω r f).2 := wS_ok k (sok_R k.1 hf)
theorem pwr_PM {n : Nat} {f : Nat → Nat} {x : Int} (hf : PM n f) : PM n (pwr n f x) := by
  unfold pwr
  split
  · exact itr_PM (inv_PM hf) _
  · exact itr_PM hf _
theorem wk_setWords {ω : Wv} (k : wok ω) (x : Int32) : wok (stSetWords ω x).2 := wok_gd k fun m hm => by
  have := ix_l hm
  split
  · exact k
  · exact wS_ok k (sok_0 (by omega) (by omega))
theorem wk_setSound {ω : Wv} (k : wok ω) (a b : Int32) : wok (stSetSound ω a b).2 := wok_gd k fun i hi => wok_gd k fun v hv => wS_ok k ⟨k.1.1, k.1.2.1, fun j hj => by
  show (if j = i then v else sS ω.1 j) < 4
  split
  · exact ix_l hv
  · exact k.1.2.2.1 j hj, k.1.2.2.2.1, k.1.2.2.2.2⟩
theorem wk_type {ω : Wv} (k : wok ω) (c : Int32) : wok (stType ω c).2 := wok_gd k fun x hx => by
  have h := ix_l hx
  have k3 := k.2.2
  split
  · exact k
  · split
    · exact k
    · refine ⟨k.1, k.2.1, by show wT ω + 1 ≤ 80; omega, fun i hi => ?_⟩
      have hi : i < wT ω + 1 := hi
      show 33 ≤ (if i = wT ω then x else wt ω i) ∧ (if i = wT ω then x else wt ω i) ≤ 126
      split
      · omega
      · exact k3.2 i (by omega)
theorem wk_clear {ω : Wv} (k : wok ω) : wok (stClear ω).2 := ⟨k.1, k.2.1, by show 0 ≤ 80; omega, fun i hi => absurd hi (Nat.not_lt_zero i)⟩
theorem wk_loadPoem {ω : Wv} (k : wok ω) : wok (stLoadPoem ω).2 := by
  unfold stLoadPoem
  cases hr : pread (wT ω) (wt ω) with
  | inl f => exact k
  | inr Z =>
    obtain ⟨n, p⟩ := Z
    obtain ⟨h1, h2, h3⟩ := pread_ok hr
    show wok (wS ω (if n = wN ω then withP ω.1 p else withP (st0 n) p))
    refine wS_ok k ?_
    split
    · rename_i e
      exact sok_P k.1 (by show pok (wN ω) p; rw [← e]; exact h3)
    · exact sok_P (sok_0 h1 h2) h3
theorem wk_loadTurn {ω : Wv} (k : wok ω) (r : Int32) : wok (stLoadTurn ω r).2 := wok_gd k fun q hq => by
  cases ht : trun (wN ω) (wt ω) (wT ω) 0 (fun i => i) 0 false 0 0 with
  | inl f => exact k
  | inr f =>
    exact wok_sto k (trun_PM _ _ _ _ _ _ _ ⟨Nat.two_pow_pos _, fun i hi => hi, fun x _ _ => rfl, by rw [if_neg (by simp)]; exact PM_id _⟩ ht)
theorem wk_make {ω : Wv} (k : wok ω) (r kind a : Int32) : wok (stMake ω r kind a).2 := wok_gd k fun q hq => wok_gd k fun x hx => wok_gd k fun y hy => wok_sto k (kd_PM k.1.2.1 (ix_l hy) (ix_l hx))
theorem wk_product {ω : Wv} (k : wok ω) (a b c : Int32) : wok (stProduct ω a b c).2 := wok_gd k fun q hq => wok_gd k fun x hx => wok_gd k fun y hy => wok_sto k (PM_comp (k.1.2.2.2.1 q (ix_l hq)) (k.1.2.2.2.1 x (ix_l hx)))
theorem wk_power {ω : Wv} (k : wok ω) (a b c : Int32) : wok (stPower ω a b c).2 := wok_gd k fun q hq => by
  split
  · exact k
  · exact wok_gd k fun y hy => wok_sto k (pwr_PM (k.1.2.2.2.1 q (ix_l hq)))
theorem wk_unrank {ω : Wv} (k : wok ω) (r a : Int32) : wok (stUnrank ω r a).2 := wok_gd k fun q hq => wok_gd k fun x hx => wS_ok k (sok_R k.1 (unr_PM _ _))
theorem wk_root {ω : Wv} (k : wok ω) (a b c : Int32) : wok (stRoot ω a b c).2 := wok_gd k fun q hq => wok_gd k fun x hx => by
  split
  · exact k
  · exact wok_gd k fun y hy => by
      split
      · exact wok_sto k (unr_PM _ _)
      · exact rcd_ok k
theorem wk_at {ω : Wv} (k : wok ω) (r a : Int32) : wok (stAt ω r a).2 := wok_gd k fun _ _ => wok_gd k fun _ _ => k
theorem wk_turn {ω : Wv} (k : wok ω) (r a : Int32) : wok (stTurn ω r a).2 := wok_gd k fun _ _ => wok_gd k fun _ _ => k
theorem wk_places {ω : Wv} (k : wok ω) (r a b : Int32) : wok (stPlaces ω r a b).2 := wok_gd k fun _ _ => wok_gd k fun _ _ => wok_gd k fun _ _ => k
theorem wk_generated {ω : Wv} (k : wok ω) (a : Int32) : wok (stGenerated ω a).2 := wok_gd k fun _ _ => k
theorem wk_reach {ω : Wv} (k : wok ω) (a r : Int32) : wok (stReach ω a r).2 := wok_gd k fun _ _ => wok_gd k fun _ _ => k
theorem wk_factor {ω : Wv} (k : wok ω) (a r b : Int32) : wok (stFactor ω a r b).2 := wok_gd k fun _ _ => wok_gd k fun _ _ => by split <;> exact k
theorem wk_add {ω : Wv} (k : wok ω) (r : Int32) : wok (stAdd ω r).2 := wok_gd k fun q hq => by
  have hP : pok (wN ω) (wP ω) := k.1.2.2.2.2
  split
  · exact k
  · refine wS_ok k (sok_P k.1 (pok_add hP (by omega) (fun i hi => ?_)))
    show (if pc (wP ω) = 0 then i else pst (wP ω) (pc (wP ω) - 1) (wG ω q i)) < wN ω
    split
    · exact hi
    · exact hP.2.1 _ (by omega) _ ((k.1.2.2.2.1 q (ix_l hq)).1 i hi)
theorem wk_drop {ω : Wv} (k : wok ω) : wok (stDrop ω).2 := by
  have hP : pok (wN ω) (wP ω) := k.1.2.2.2.2
  unfold stDrop
  split
  · exact k
  · exact wS_ok k (sok_P k.1 ⟨by have := hP.1; show pc (wP ω) - 1 ≤ 8; omega, fun s hs => hP.2.1 s (by have hs : s < pc (wP ω) - 1 := hs; omega), fun s hs => hP.2.2.1 s (by have hs : s < pc (wP ω) - 1 := hs; omega), hP.2.2.2⟩)
theorem wk_put {ω : Wv} (k : wok ω) (s i x : Int32) : wok (stPut ω s i x).2 := wok_gd k fun a ha => wok_gd k fun b hb => wok_gd k fun d hd => by
  have hP : pok (wN ω) (wP ω) := k.1.2.2.2.2
  refine wS_ok k (sok_P k.1 ⟨hP.1, fun t ht j hj => ?_, hP.2.2⟩)
  show (if t = a then upn (pst (wP ω) a) b d else pst (wP ω) t) j < wN ω
  split
  · unfold upn
    split
    · exact ix_l hd
    · exact hP.2.1 a (ix_l ha) j hj
  · exact hP.2.1 t ht j hj
theorem wk_lock {ω : Wv} (k : wok ω) (s i x : Int32) : wok (stLock ω s i x).2 := wok_gd k fun a ha => wok_gd k fun b hb => by
  have hP : pok (wN ω) (wP ω) := k.1.2.2.2.2
  refine wS_ok k (sok_P k.1 ⟨hP.1, hP.2.1, fun t ht => ?_, hP.2.2.2⟩)
  have hl := hP.2.2.1 a (ix_l ha)
  show (if t = a then (if x = 0 then plk (wP ω) a &&& (2 ^ b ^^^ 4294967295) else plk (wP ω) a ||| 2 ^ b) else plk (wP ω) t) < 2 ^ wN ω
  split
  · split
    · exact Nat.lt_of_le_of_lt Nat.and_le_left hl
    · exact Nat.or_lt_two_pow hl (Nat.pow_lt_pow_right (by omega) (ix_l hb))
  · exact hP.2.2.1 t ht
theorem wk_word {ω : Wv} (k : wok ω) (s i : Int32) : wok (stWord ω s i).2 := wok_gd k fun _ _ => wok_gd k fun _ _ => k
theorem wk_proper {ω : Wv} (k : wok ω) (s : Int32) : wok (stProper ω s).2 := wok_gd k fun _ _ => k
theorem wk_turning {ω : Wv} (k : wok ω) (s : Int32) : wok (stTurning ω s).2 := wok_gd k fun _ _ => k
theorem wk_common {ω : Wv} (k : wok ω) (r : Int32) : wok (stCommon ω r).2 := wok_gd k fun q hq => by
  split
  · rename_i h
    exact wok_sto k (tbp_PM k.1.2.2.2.2 h.1).2.2
  · exact rcd_ok k
theorem wk_follows {ω : Wv} (k : wok ω) (r : Int32) : wok (stFollows ω r).2 := wok_gd k fun _ _ => k
theorem wk_cost {ω : Wv} (k : wok ω) (r : Int32) : wok (stCost ω r).2 := wok_gd k fun _ _ => by split <;> exact k
theorem wk_mend {ω : Wv} (k : wok ω) (r : Int32) : wok (stMend ω r).2 := wok_gd k fun q hq => by
  have hP : pok (wN ω) (wP ω) := k.1.2.2.2.2
  split
  · exact k
  · split
    · exact rcd_ok k
    · rename_i cc
      refine wS_ok k (sok_P k.1 ⟨hP.1, fun t ht j hj => ?_, hP.2.2⟩)
      exact frow_lt k.1.2.1 cc (itr_lt (k.1.2.2.2.1 q (ix_l hq)).1 t j hj)
theorem wk_best {ω : Wv} (k : wok ω) (r : Int32) : wok (stBest ω r).2 := wok_gd k fun q hq => by
  split
  · exact k
  · split
    · exact rcd_ok k
    · exact wS_ok k (sok_R k.1 (unr_PM _ _))
theorem wk_tail {ω : Wv} (k : wok ω) (a : Int32) : wok (stTail ω a).2 := wok_gd k fun _ _ => k
theorem wk_tailWord {ω : Wv} (k : wok ω) (a b : Int32) : wok (stTailWord ω a b).2 := wok_gd k fun _ _ => by split <;> exact k
theorem wk_scheme {ω : Wv} (k : wok ω) (s : Int32) : wok (stScheme ω s).2 := wok_gd k fun _ _ => k
theorem wk_schemes {ω : Wv} (k : wok ω) (s r : Int32) : wok (stSchemes ω s r).2 := wok_gd k fun _ _ => wok_gd k fun _ _ => k
theorem wk_coupled {ω : Wv} (k : wok ω) (s : Int32) : wok (stCoupled ω s).2 := wok_gd k fun _ _ => k
theorem wk_told {ω : Wv} (k : wok ω) (a : Int32) : wok (stTold ω a).2 := wok_gd k fun _ _ => k
theorem wk_undo {ω : Wv} (k : wok ω) : wok (stUndo ω).2 := by
  unfold stUndo
  cases hl : ω.2.1 with
  | nil => exact k
  | cons σ l => exact ⟨k.2.1 σ (by rw [hl]; exact List.mem_cons_self), fun τ hτ => k.2.1 τ (by rw [hl]; exact List.mem_cons_of_mem _ hτ), k.2.2⟩
