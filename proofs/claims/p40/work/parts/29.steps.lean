/-! THE CALLS, as steps of one mathematical state: the state, the remembered ones, the text -/
abbrev Wv : Type := Sv × List Sv × Nat × (Nat → Nat)
def rcd (ω : Wv) : Wv := (ω.1, (ω.1 :: ω.2.1).take 8, ω.2.2)
/-- the state is remembered, and another one takes its place -/
def wS (ω : Wv) (σ : Sv) : Wv := (σ, (ω.1 :: ω.2.1).take 8, ω.2.2)
abbrev wN (ω : Wv) : Nat := sN ω.1
abbrev wG (ω : Wv) : Nat → Nat → Nat := sR ω.1
abbrev wP (ω : Wv) : Pv := sP ω.1
abbrev wT (ω : Wv) : Nat := ω.2.2.1
abbrev wt (ω : Wv) : Nat → Nat := ω.2.2.2
def wok (ω : Wv) : Prop := sok ω.1 ∧ (∀ τ, τ ∈ ω.2.1 → sok τ) ∧ bok (wT ω) (wt ω)
/-- an argument as a number below m -/
def ix (m : Nat) (x : Int32) : Option Nat := if 0 ≤ x.toInt ∧ x.toInt < m then some x.toInt.toNat else none
def gd (o : Option Nat) (ω : Wv) (k : Nat → Int32 × Wv) : Int32 × Wv := match o with
  | none => (-1, ω)
  | some r => k r
def setR (σ : Sv) (r : Nat) (f : Nat → Nat) : Sv := (sN σ, sS σ, fun q => if q = r then f else sR σ q, sP σ)
def withP (σ : Sv) (p : Pv) : Sv := (sN σ, sS σ, sR σ, p)
def sto (ω : Wv) (r : Nat) (f : Nat → Nat) : Int32 × Wv := (nI (rank (wN ω) f), wS ω (setR ω.1 r f))
def stSetWords (ω : Wv) (x : Int32) : Int32 × Wv := gd (ix 8 x) ω fun m => if m < 2 then (-1, ω) else (nI (wN ω), wS ω (st0 m))
def stSetSound (ω : Wv) (w v : Int32) : Int32 × Wv := gd (ix (wN ω) w) ω fun i => gd (ix 4 v) ω fun v => (nI (sS ω.1 i), wS ω (wN ω, upn (sS ω.1) i v, wG ω, wP ω))
def stType (ω : Wv) (c : Int32) : Int32 × Wv := gd (ix 127 c) ω fun c => if c < 33 then (-1, ω) else if 80 ≤ wT ω then (-3, ω) else (nI (wT ω + 1), (ω.1, ω.2.1, wT ω + 1, upn (wt ω) (wT ω) c))
def stClear (ω : Wv) : Int32 × Wv := (nI (wT ω), (ω.1, ω.2.1, 0, wt ω))
def stLoadPoem (ω : Wv) : Int32 × Wv := match pread (wT ω) (wt ω) with
  | .inl f => (-10 - nI f, ω)
  | .inr (n, p) => (nI (pc p), wS ω (if n = wN ω then withP ω.1 p else withP (st0 n) p))
def stLoadTurn (ω : Wv) (r : Int32) : Int32 × Wv := gd (ix 6 r) ω fun r => match trun (wN ω) (wt ω) (wT ω) 0 (fun i => i) 0 false 0 0 with
  | .inl k => (-10 - nI k, ω)
  | .inr f => sto ω r f
def stMake (ω : Wv) (r kind k : Int32) : Int32 × Wv := gd (ix 6 r) ω fun r => gd (ix 6 kind) ω fun kind => gd (ix (wN ω) k) ω fun k => sto ω r (kd kind k (wN ω))
def stProduct (ω : Wv) (a b to : Int32) : Int32 × Wv := gd (ix 6 a) ω fun a => gd (ix 6 b) ω fun b => gd (ix 6 to) ω fun to => sto ω to (fun i => wG ω a (wG ω b i))
def pwr (n : Nat) (f : Nat → Nat) (k : Int) : Nat → Nat := if k < 0 then itr (inv n f) (-k).toNat else itr f k.toNat
def stPower (ω : Wv) (a k to : Int32) : Int32 × Wv := gd (ix 6 a) ω fun a => if k.toInt < -1000000 ∨ 1000000 < k.toInt then (-1, ω) else gd (ix 6 to) ω fun to => sto ω to (pwr (wN ω) (wG ω a) k.toInt)
def stUnrank (ω : Wv) (r k : Int32) : Int32 × Wv := gd (ix 6 r) ω fun r => gd (ix (fct (wN ω)) k) ω fun k => (nI (ord (wN ω) (unr (wN ω) k)), wS ω (setR ω.1 r (unr (wN ω) k)))
def stRoot (ω : Wv) (a k to : Int32) : Int32 × Wv := gd (ix 6 a) ω fun a => gd (ix 13 k) ω fun k => if k < 1 then (-1, ω) else gd (ix 6 to) ω fun to =>
  if rt (wN ω) (wG ω a) k < fct (wN ω) then sto ω to (unr (wN ω) (rt (wN ω) (wG ω a) k)) else (-9, rcd ω)
def stAt (ω : Wv) (r i : Int32) : Int32 × Wv := gd (ix 6 r) ω fun r => gd (ix (wN ω) i) ω fun i => (nI (wG ω r i), ω)
def stTurn (ω : Wv) (r w : Int32) : Int32 × Wv := gd (ix 6 r) ω fun r => gd (ix 7 w) ω fun w => (nI (prp (wN ω) (wG ω r) w), ω)
def plA (g : Nat → Nat) (i : Nat) : Nat → Nat
  | 0 => 2 ^ i
  | k + 1 => plA g i k ||| 2 ^ itr g (k + 1) i
def stPlaces (ω : Wv) (r i k : Int32) : Int32 × Wv := gd (ix 6 r) ω fun r => gd (ix (wN ω) i) ω fun i => gd (ix 101 k) ω fun k => (nI (plA (inv (wN ω) (wG ω r)) i k), ω)
def stGenerated (ω : Wv) (s : Int32) : Int32 × Wv := gd (ix 64 s) ω fun s => (nI (bc (bfs (wN ω) s (wG ω))), ω)
def stReach (ω : Wv) (s r : Int32) : Int32 × Wv := gd (ix 64 s) ω fun s => gd (ix 6 r) ω fun r => (if bd (bfs (wN ω) s (wG ω)) (rank (wN ω) (wG ω r)) = 0 then -9 else nI (bd (bfs (wN ω) s (wG ω)) (rank (wN ω) (wG ω r)) - 1), ω)
def stFactor (ω : Wv) (s r i : Int32) : Int32 × Wv := gd (ix 64 s) ω fun s => gd (ix 6 r) ω fun r => if i.toInt < 0 then (-1, ω) else
  (if i.toInt.toNat + 2 ≤ bd (bfs (wN ω) s (wG ω)) (rank (wN ω) (wG ω r)) then nI (fac (wN ω) s (wG ω) (bfs (wN ω) s (wG ω)) i.toInt.toNat (wG ω r)) else -9, ω)
def stAdd (ω : Wv) (r : Int32) : Int32 × Wv := gd (ix 6 r) ω fun r => if 8 ≤ pc (wP ω) then (-3, ω) else
  (nI (pc (wP ω) + 1), wS ω (withP ω.1 (padd (wP ω) (fun i => if pc (wP ω) = 0 then i else pst (wP ω) (pc (wP ω) - 1) (wG ω r i)))))
def stDrop (ω : Wv) : Int32 × Wv := if pc (wP ω) = 0 then (-2, ω) else (nI (pc (wP ω) - 1), wS ω (withP ω.1 (pc (wP ω) - 1, (wP ω).2)))
def pput (p : Pv) (s i w : Nat) : Pv := (pc p, fun t => if t = s then upn (pst p s) i w else pst p t, p.2.2)
def stPut (ω : Wv) (s i w : Int32) : Int32 × Wv := gd (ix (pc (wP ω)) s) ω fun s => gd (ix (wN ω) i) ω fun i => gd (ix (wN ω) w) ω fun w => (nI (pst (wP ω) s i), wS ω (withP ω.1 (pput (wP ω) s i w)))
def plok (p : Pv) (s m : Nat) : Pv := (pc p, pst p, upn (plk p) s m, p.2.2.2)
def stLock (ω : Wv) (s i b : Int32) : Int32 × Wv := gd (ix (pc (wP ω)) s) ω fun s => gd (ix (wN ω) i) ω fun i =>
  (nI (plk (wP ω) s / 2 ^ i % 2), wS ω (withP ω.1 (plok (wP ω) s (if b = 0 then plk (wP ω) s &&& (2 ^ i ^^^ 4294967295) else plk (wP ω) s ||| 2 ^ i))))
def stWord (ω : Wv) (s i : Int32) : Int32 × Wv := gd (ix (pc (wP ω)) s) ω fun s => gd (ix (wN ω) i) ω fun i => (nI (pst (wP ω) s i), ω)
def stProper (ω : Wv) (s : Int32) : Int32 × Wv := gd (ix (pc (wP ω)) s) ω fun s => (nI (if prop (wN ω) (pst (wP ω) s) = true then 1 else 0), ω)
def tbI (n : Nat) (p : Pv) (s : Nat) : Int32 := if tbh n p s = true then nI (rank n (tbp n p s)) else -9
def stTurning (ω : Wv) (s : Int32) : Int32 × Wv := gd (ix (pc (wP ω)) s) ω fun s => (tbI (wN ω) (wP ω) s, ω)
def stCommon (ω : Wv) (to : Int32) : Int32 × Wv := gd (ix 6 to) ω fun to => if tbh (wN ω) (wP ω) 0 = true ∧ flw (wN ω) (wP ω) (tbp (wN ω) (wP ω) 0) = true then sto ω to (tbp (wN ω) (wP ω) 0) else (-9, rcd ω)
def flI (n : Nat) (p : Pv) (f : Nat → Nat) : Nat := if flw n p f = true then 1 else 0
def stFollows (ω : Wv) (r : Int32) : Int32 × Wv := gd (ix 6 r) ω fun r => (nI (flI (wN ω) (wP ω) (wG ω r)), ω)
def stCost (ω : Wv) (r : Int32) : Int32 × Wv := gd (ix 6 r) ω fun r => if pc (wP ω) = 0 then (-2, ω) else (cstI (wN ω) (wG ω r) (wP ω), ω)
def stMend (ω : Wv) (r : Int32) : Int32 × Wv := gd (ix 6 r) ω fun r => if pc (wP ω) = 0 then (-2, ω) else if cst (wN ω) (wG ω r) (wP ω) = 0 then (-9, rcd ω) else
  (cstI (wN ω) (wG ω r) (wP ω), wS ω (withP ω.1 (prew (wP ω) (frow (wN ω) (KPp (wN ω) (wG ω r) (wP ω)) (ALp (wN ω) (wG ω r) (wP ω))) (wG ω r))))
def stBest (ω : Wv) (to : Int32) : Int32 × Wv := gd (ix 6 to) ω fun to => if pc (wP ω) = 0 then (-2, ω) else if (bst (mk (wN ω) (wP ω)) (fct (wN ω))).1 = 0 then (-9, rcd ω) else
  (cstI (wN ω) (unr (wN ω) (bst (mk (wN ω) (wP ω)) (fct (wN ω))).2) (wP ω), wS ω (setR ω.1 to (unr (wN ω) (bst (mk (wN ω) (wP ω)) (fct (wN ω))).2)))
/-- the words that are not in the tail -/
def mis (n : Nat) (p : Pv) : Nat := (2 ^ n - 1) &&& (wot p (ptl p) ^^^ 4294967295)
def tlI (n : Nat) (p : Pv) (w : Nat) : Int32 := match w with
  | 0 => nI (ptl p)
  | 1 => nI (sumN (ptn p) (ptl p))
  | 2 => nI (mis n p)
  | _ => if sumN (ptn p) (ptl p) < n then -9 else nI (pop (mis n p))
def stTail (ω : Wv) (w : Int32) : Int32 × Wv := gd (ix 4 w) ω fun w => (tlI (wN ω) (wP ω) w, ω)
def stTailWord (ω : Wv) (l k : Int32) : Int32 × Wv := gd (ix (ptl (wP ω)) l) ω fun l => if k.toInt < 0 then (-1, ω) else (match ix (ptn (wP ω) l) k with
  | some k => nI (ptw (wP ω) l k)
  | none => -9, ω)
def snd_ (ω : Wv) (s : Nat) : Nat → Nat := fun i => sS ω.1 (pst (wP ω) s i)
def stScheme (ω : Wv) (s : Int32) : Int32 × Wv := gd (ix (pc (wP ω)) s) ω fun s => (nI (patA (snd_ ω s) (wN ω)), ω)
def stSchemes (ω : Wv) (s r : Int32) : Int32 × Wv := gd (ix (pc (wP ω)) s) ω fun s => gd (ix 6 r) ω fun r => (nI (dls (snd_ ω s) (wG ω r) (wN ω) (ord (wN ω) (wG ω r))).length, ω)
def stCoupled (ω : Wv) (s : Int32) : Int32 × Wv := gd (ix (pc (wP ω)) s) ω fun s => (nI (mnb (wN ω) (snd_ ω s) (fct (wN ω) - 1)), ω)
def tdI (ω : Wv) (w : Nat) : Int32 := match w with
  | 0 => nI (wN ω)
  | 1 => nI (pc (wP ω))
  | 2 => nI (ct (fun s => prop (wN ω) (pst (wP ω) s)) (pc (wP ω)))
  | 3 => nI (sumN (fun s => pop (plk (wP ω) s)) (pc (wP ω)))
  | 4 => nI (wT ω)
  | _ => nI ω.2.1.length
def stTold (ω : Wv) (w : Int32) : Int32 × Wv := gd (ix 6 w) ω fun w => (tdI ω w, ω)
def stUndo (ω : Wv) : Int32 × Wv := match ω.2.1 with
  | [] => (-2, ω)
  | σ :: l => (nI l.length, (σ, l, ω.2.2))
def fI2 (g : Nat → Int32) : Nat → Int64 → Int64
  | 0, h => h
  | k + 1, h => 31 * fI2 g k h + (g k).toInt64
def fL2 (g : Nat → Int64 → Int64) : Nat → Int64 → Int64
  | 0, h => h
  | k + 1, h => g k (fL2 g k h)
def dgS (ω : Wv) (s : Nat) (h : Int64) : Int64 :=
  31 * (31 * fI2 (fun i => nI (plk (wP ω) s / 2 ^ i % 2)) (wN ω) (fI2 (fun i => nI (pst (wP ω) s i)) (wN ω) h) + (tbI (wN ω) (wP ω) s).toInt64) + (nI (patA (snd_ ω s) (wN ω))).toInt64
def dgT (ω : Wv) (h : Int64) : Int64 := fL2 (fun l => fI2 (fun k => nI (ptw (wP ω) l k)) (ptn (wP ω) l)) (ptl (wP ω)) (fI2 (fun w => tlI (wN ω) (wP ω) w) 4 h)
def dig (ω : Wv) : Int64 :=
  dgT ω (fI2 (fun r => nI (flI (wN ω) (wP ω) (wG ω r))) 6 (fL2 (dgS ω) (pc (wP ω)) (fL2 (fun r => fI2 (fun w => nI (prp (wN ω) (wG ω r) w)) 7) 6 (fI2 (fun w => nI (sS ω.1 w)) (wN ω) (fI2 (tdI ω) 6 12674)))))
/-! arguments -/
theorem n_of {x : Int32} (h : 0 ≤ x.toInt) : x = nI x.toInt.toNat := by
  have h2 : x.toInt < 2 ^ 31 := Int32.toInt_lt x
  apply Int32.toInt_inj.mp
  rw [nI_toInt (by omega)]
  omega
theorem ix_some {m r : Nat} {x : Int32} (h : ix m x = some r) : x = nI r ∧ r < m := by
  unfold ix at h
  split at h
  · rename_i c
    cases h
    exact ⟨n_of c.1, by omega⟩
  · cases h
theorem ix_nI {m r : Nat} (h : r < m) (hm : m ≤ 2147483648) : ix m (nI r) = some r := by
  unfold ix
  rw [nI_toInt (by omega), if_pos ⟨by omega, by omega⟩]
  simp
theorem ix_neg {m : Nat} {x : Int32} (h : x < nI 0) : ix m x = none := by
  unfold ix
  rw [Int32.lt_iff_toInt_lt, nI_toInt (by omega)] at h
  rw [if_neg (by omega)]
theorem ix_ge {m : Nat} {x : Int32} (hm : m < 2147483648) (h : nI m ≤ x) : ix m x = none := by
  unfold ix
  rw [Int32.le_iff_toInt_le, nI_toInt hm] at h
  rw [if_neg (by omega)]
theorem ix_in {m : Nat} {x : Int32} (hm : m < 2147483648) (h1 : ¬ x < nI 0) (h2 : ¬ nI m ≤ x) : ∃ r, ix m x = some r := by
  unfold ix
  rw [Int32.lt_iff_toInt_lt, nI_toInt (by omega)] at h1
  rw [Int32.le_iff_toInt_le, nI_toInt hm] at h2
  exact ⟨_, if_pos (by omega)⟩
theorem ix_lt {m : Nat} {x : Int32} (hm : m < 2147483648) (h : ¬ x < nI m) : ix m x = none := by
  unfold ix
  rw [Int32.lt_iff_toInt_lt, nI_toInt hm] at h
  rw [if_neg (by omega)]
theorem ix_in2 {m : Nat} {x : Int32} (hm : m < 2147483648) (h1 : ¬ x < nI 0) (h2 : x < nI m) : ∃ r, ix m x = some r := by
  unfold ix
  rw [Int32.lt_iff_toInt_lt, nI_toInt (by omega)] at h1
  rw [Int32.lt_iff_toInt_lt, nI_toInt hm] at h2
  exact ⟨_, if_pos (by omega)⟩
/-- 1 if there is such a number -/
def ib (m : Nat) (x : Int32) : Nat := match ix m x with
  | none => 0
  | some _ => 1
theorem gdN {o : Option Nat} {ω : Wv} {k : Nat → Int32 × Wv} (h : o = none) : gd o ω k = (-1, ω) := by rw [h]; rfl
theorem gdS {o : Option Nat} {ω : Wv} {k : Nat → Int32 × Wv} {r : Nat} (h : o = some r) : gd o ω k = k r := by rw [h]; rfl
theorem ibN {m : Nat} {x : Int32} (h : ix m x = none) : ib m x = 0 := by unfold ib; rw [h]
theorem ibS {m r : Nat} {x : Int32} (h : ix m x = some r) : ib m x = 1 := by unfold ib; rw [h]
/-! the class's object, and what may change of it -/
def isT (h : xHp) (A : Nat) (ω : Wv) : Prop := isTV h A ω.1 ω.2.1 (wT ω) (wt ω)
def pT (h : xHp) (A : Nat) (o : Int32 × Wv) : Option Value → xHp → Prop := fun v h' => v = some (.int o.1) ∧ isT h' A o.2 ∧ frm h h' A (A + 84)
theorem isT_sta {h h' : xHp} {A : Nat} {ω : Wv} {σ : Sv} (w : isT h A ω) (hs : isState h' (A + 1) σ) (f : frm h h' (A + 1) (A + 8)) : isT h' A (σ, ω.2) := by
  obtain ⟨w0, w1, w2, w3, ⟨⟨n, pos, w4⟩, w5⟩, ⟨q, w6⟩, w7, w8, ⟨g, w9⟩⟩ := w
  exact ⟨xat_fr w0 f (by omega), hs, w2.fr f (by omega), w3.fr f (by omega), ⟨⟨n, pos, xat_fr w4 f (by omega)⟩, w5.fr f (by omega)⟩, ⟨q, xat_fr w6 f (by omega)⟩, w7.fr f (by omega), w8.fr f (by omega), ⟨g, xat_fr w9 f (by omega)⟩⟩
theorem isT_his {h h' : xHp} {A : Nat} {ω : Wv} {l : List Sv} (w : isT h A ω) (hs : isHist h' (A + 8) l) (f : frm h h' (A + 8) (A + 8 + 58)) : isT h' A (ω.1, l, ω.2.2) := by
  obtain ⟨w0, w1, w2, w3, ⟨⟨n, pos, w4⟩, w5⟩, ⟨q, w6⟩, w7, w8, ⟨g, w9⟩⟩ := w
  exact ⟨xat_fr w0 f (by omega), w1.fr f (by omega), hs, w3.fr f (by omega), ⟨⟨n, pos, xat_fr w4 f (by omega)⟩, w5.fr f (by omega)⟩, ⟨q, xat_fr w6 f (by omega)⟩, w7.fr f (by omega), w8.fr f (by omega), ⟨g, xat_fr w9 f (by omega)⟩⟩
theorem isT_txt {h h' : xHp} {A T : Nat} {t : Nat → Nat} {ω : Wv} (w : isT h A ω) (hs : isText h' (A + 66) T t) (f : frm h h' (A + 66) (A + 66 + 2)) : isT h' A (ω.1, ω.2.1, T, t) := by
  obtain ⟨w0, w1, w2, w3, ⟨⟨n, pos, w4⟩, w5⟩, ⟨q, w6⟩, w7, w8, ⟨g, w9⟩⟩ := w
  exact ⟨xat_fr w0 f (by omega), w1.fr f (by omega), w2.fr f (by omega), hs, ⟨⟨n, pos, xat_fr w4 f (by omega)⟩, w5.fr f (by omega)⟩, ⟨q, xat_fr w6 f (by omega)⟩, w7.fr f (by omega), w8.fr f (by omega), ⟨g, xat_fr w9 f (by omega)⟩⟩
theorem isT_prd {h h' : xHp} {A : Nat} {ω : Wv} (w : isT h A ω) (hs : (∃ n pos, isPrd h' (A + 68) n pos) ∧ shPoem h' (A + 69)) (f : frm h h' (A + 68) (A + 68 + 6)) : isT h' A ω := by
  obtain ⟨w0, w1, w2, w3, ⟨⟨n, pos, w4⟩, w5⟩, ⟨q, w6⟩, w7, w8, ⟨g, w9⟩⟩ := w
  exact ⟨xat_fr w0 f (by omega), w1.fr f (by omega), w2.fr f (by omega), w3.fr f (by omega), hs, ⟨q, xat_fr w6 f (by omega)⟩, w7.fr f (by omega), w8.fr f (by omega), ⟨g, xat_fr w9 f (by omega)⟩⟩
theorem isT_trd {h h' : xHp} {A : Nat} {ω : Wv} (w : isT h A ω) (hs : ∃ p, xat h' (A + 74) (xob 7 [.int p])) (f : frm h h' (A + 74) (A + 74 + 1)) : isT h' A ω := by
  obtain ⟨w0, w1, w2, w3, ⟨⟨n, pos, w4⟩, w5⟩, ⟨q, w6⟩, w7, w8, ⟨g, w9⟩⟩ := w
  exact ⟨xat_fr w0 f (by omega), w1.fr f (by omega), w2.fr f (by omega), w3.fr f (by omega), ⟨⟨n, pos, xat_fr w4 f (by omega)⟩, w5.fr f (by omega)⟩, hs, w7.fr f (by omega), w8.fr f (by omega), ⟨g, xat_fr w9 f (by omega)⟩⟩
theorem isT_sea {h h' : xHp} {A : Nat} {ω : Wv} (w : isT h A ω) (hs : shSea h' (A + 75)) (f : frm h h' (A + 75) (A + 75 + 4)) : isT h' A ω := by
  obtain ⟨w0, w1, w2, w3, ⟨⟨n, pos, w4⟩, w5⟩, ⟨q, w6⟩, w7, w8, ⟨g, w9⟩⟩ := w
  exact ⟨xat_fr w0 f (by omega), w1.fr f (by omega), w2.fr f (by omega), w3.fr f (by omega), ⟨⟨n, pos, xat_fr w4 f (by omega)⟩, w5.fr f (by omega)⟩, ⟨q, xat_fr w6 f (by omega)⟩, hs, w8.fr f (by omega), ⟨g, xat_fr w9 f (by omega)⟩⟩
theorem isT_fit {h h' : xHp} {A : Nat} {ω : Wv} (w : isT h A ω) (hs : shFit h' (A + 79)) (f : frm h h' (A + 79) (A + 79 + 4)) : isT h' A ω := by
  obtain ⟨w0, w1, w2, w3, ⟨⟨n, pos, w4⟩, w5⟩, ⟨q, w6⟩, w7, w8, ⟨g, w9⟩⟩ := w
  exact ⟨xat_fr w0 f (by omega), w1.fr f (by omega), w2.fr f (by omega), w3.fr f (by omega), ⟨⟨n, pos, xat_fr w4 f (by omega)⟩, w5.fr f (by omega)⟩, ⟨q, xat_fr w6 f (by omega)⟩, w7.fr f (by omega), hs, ⟨g, xat_fr w9 f (by omega)⟩⟩
theorem isT_seen {h h' : xHp} {A : Nat} {ω : Wv} (w : isT h A ω) (hs : ∃ f, xat h' (A + 83) (xia 12 f)) (f : frm h h' (A + 83) (A + 83 + 1)) : isT h' A ω := by
  obtain ⟨w0, w1, w2, w3, ⟨⟨n, pos, w4⟩, w5⟩, ⟨q, w6⟩, w7, w8, ⟨g, w9⟩⟩ := w
  exact ⟨xat_fr w0 f (by omega), w1.fr f (by omega), w2.fr f (by omega), w3.fr f (by omega), ⟨⟨n, pos, xat_fr w4 f (by omega)⟩, w5.fr f (by omega)⟩, ⟨q, xat_fr w6 f (by omega)⟩, w7.fr f (by omega), w8.fr f (by omega), hs⟩
theorem xrcd {ZZ : Prop} {h : xHp} {A : Nat} {ω : Wv} {K : xHp → Prop} (w : isT h A ω) (k : wok ω) (p : ∀ h', isT h' A (rcd ω) → frm h h' A (A + 84) → K h') : (∃ P : Option Value → xHp → Prop, SpecR g_Hist_remember [.ref (A + 8), .ref (A + 1)] h P ∧ ∀ h', P none h' → K h') ∨ ZZ :=
  Or.inl ⟨_, sp_Hist_remember w.2.2.1 w.2.1 k.1 (by omega), fun h' z => p h' (isT_his w z.2.1 z.2.2) (frm_wd z.2.2 (by omega) (by omega))⟩
theorem gdX {m : Nat} {x : Int32} {A B : Prop} (a : ix m x = none → A) (b : ∀ r, ix m x = some r → x = nI r → r < m → B) : (nI (ib m x) = nI 0 → A) ∧ (¬ nI (ib m x) = nI 0 → B) := by
  cases h : ix m x with
  | none => exact ⟨fun _ => a h, fun z => absurd (by rw [ibN h]) z⟩
  | some r => exact ⟨fun z => absurd z (by rw [ibS h]; decide), fun _ => b r h (ix_some h).1 (ix_some h).2⟩
theorem gdY {m : Nat} {x : Int32} {A A' B : Prop} (hm : m < 2147483648) (a : ix m x = none → A) (a' : ix m x = none → A') (b : ∀ r, ix m x = some r → x = nI r → r < m → B) : (x < nI 0 → A) ∧ (¬ x < nI 0 → (nI m ≤ x → A') ∧ (¬ nI m ≤ x → B)) :=
  ⟨fun z => a (ix_neg z), fun z => ⟨fun y => a' (ix_ge hm y), fun y => by
    obtain ⟨r, hr⟩ := ix_in hm z y
    exact b r hr (ix_some hr).1 (ix_some hr).2⟩⟩
theorem gdZ {m : Nat} {x : Int32} {A A' B : Prop} (hm : m < 2147483648) (a : ix m x = none → A) (a' : ix m x = none → A') (b : ∀ r, ix m x = some r → x = nI r → r < m → B) : (x < nI 0 → A) ∧ (¬ x < nI 0 → (x < nI m → B) ∧ (¬ x < nI m → A')) :=
  ⟨fun z => a (ix_neg z), fun z => ⟨fun y => by
    obtain ⟨r, hr⟩ := ix_in2 hm z y
    exact b r hr (ix_some hr).1 (ix_some hr).2, fun y => a' (ix_lt hm y)⟩⟩
theorem sp_TV_isRegister (x : Int32) (h : xHp) : Spec g_TV_isRegister [.int x] h (some (.int (nI (ib 6 x)))) h := by
  refine Spec.of (by decide +kernel) (Nat.le_of_ble_eq_true rfl) ⟨_, rfl⟩ rfl rfl (fun c hc => by cases hc) (fun Q hQ => ?_)
  refine xgoal [] 100 ok_TV_isRegister ?_
  refine gdY (m := 6) (by omega) (fun z => ?_) (fun z => ?_) (fun r z _ _ => ?_)
  · rw [ibN z] at hQ; exact ⟨Or.inl rfl, hQ⟩
  · rw [ibN z] at hQ; exact ⟨Or.inl rfl, hQ⟩
  · rw [ibS z] at hQ; exact ⟨Or.inr rfl, hQ⟩
theorem sp_TV_isSetOfRegisters (x : Int32) (h : xHp) : Spec g_TV_isSetOfRegisters [.int x] h (some (.int (nI (ib 64 x)))) h := by
  refine Spec.of (by decide +kernel) (Nat.le_of_ble_eq_true rfl) ⟨_, rfl⟩ rfl rfl (fun c hc => by cases hc) (fun Q hQ => ?_)
  refine xgoal [] 100 ok_TV_isSetOfRegisters ?_
  refine gdY (m := 64) (by omega) (fun z => ?_) (fun z => ?_) (fun r z _ _ => ?_)
  · rw [ibN z] at hQ; exact ⟨Or.inl rfl, hQ⟩
  · rw [ibN z] at hQ; exact ⟨Or.inl rfl, hQ⟩
  · rw [ibS z] at hQ; exact ⟨Or.inr rfl, hQ⟩
theorem sp_TV_isLine {h : xHp} {A : Nat} {ω : Wv} (x : Int32) (w : isT h A ω) (hn : wN ω ≤ 7) : Spec g_TV_isLine [.ref A, .int x] h (some (.int (nI (ib (wN ω) x)))) h := by
  refine Spec.of (by decide +kernel) (Nat.le_of_ble_eq_true rfl) ⟨_, rfl⟩ rfl rfl (fun c hc => by cases hc; exact ⟨_, _, _, rfl, w.1⟩) (fun Q hQ => ?_)
  refine xgoal [] 100 ok_TV_isLine ?_
  have key := gdY (m := wN ω) (x := x) (A := Q (some (.int (nI 0))) h) (A' := Q (some (.int (nI 0))) h) (B := Q (some (.int (nI 1))) h) (by omega) (fun z => by rw [ibN z] at hQ; exact hQ) (fun z => by rw [ibN z] at hQ; exact hQ) (fun r z _ _ => by rw [ibS z] at hQ; exact hQ)
  refine And.intro (fun c => ⟨Or.inl rfl, key.1 c⟩) (fun c => ?_)
  refine xgf w.1 rfl ?_
  refine xgf w.2.1.1 rfl ?_
  exact And.intro (fun c2 => ⟨Or.inl rfl, (key.2 c).1 c2⟩) (fun c2 => ⟨Or.inr rfl, (key.2 c).2 c2⟩)
theorem sp_TV_isStanza {h : xHp} {A : Nat} {ω : Wv} (x : Int32) (w : isT h A ω) (hn : pc (wP ω) ≤ 8) : Spec g_TV_isStanza [.ref A, .int x] h (some (.int (nI (ib (pc (wP ω)) x)))) h := by
  refine Spec.of (by decide +kernel) (Nat.le_of_ble_eq_true rfl) ⟨_, rfl⟩ rfl rfl (fun c hc => by cases hc; exact ⟨_, _, _, rfl, w.1⟩) (fun Q hQ => ?_)
  refine xgoal [] 100 ok_TV_isStanza ?_
  have key := gdY (m := pc (wP ω)) (x := x) (A := Q (some (.int (nI 0))) h) (A' := Q (some (.int (nI 0))) h) (B := Q (some (.int (nI 1))) h) (by omega) (fun z => by rw [ibN z] at hQ; exact hQ) (fun z => by rw [ibN z] at hQ; exact hQ) (fun r z _ _ => by rw [ibS z] at hQ; exact hQ)
  refine And.intro (fun c => ⟨Or.inl rfl, key.1 c⟩) (fun c => ?_)
  refine xgf w.1 rfl ?_
  refine xgf w.2.1.1 rfl ?_
  refine xgf w.2.1.2.2.1 rfl ?_
  exact And.intro (fun c2 => ⟨Or.inl rfl, (key.2 c).1 c2⟩) (fun c2 => ⟨Or.inr rfl, (key.2 c).2 c2⟩)
theorem sp_TV_store {h : xHp} {A r : Nat} {ω : Wv} {f : Nat → Nat} (w : isT h A ω) (k : wok ω) (hr : r < 6) (hf : PM (wN ω) f) : SpecR g_TV_store [.ref A, .int (nI r), .int (R (nrm (wN ω) f))] h (pT h A (sto ω r f)) := by
  refine SpecR.of (by decide +kernel) (Nat.le_of_ble_eq_true rfl) (fun c hc => by cases hc; exact ⟨_, _, _, rfl, w.1⟩) (fun v h' z => ⟨⟨_, z.1⟩, z.2.2.1, z.2.2.2.1⟩) (fun Q hQ => ?_)
  refine xgoal [] 100 ok_TV_store ?_
  refine xgf w.1 rfl ?_
  refine xgf w.1 rfl ?_
  refine xrcd w k (fun h1 w1 fr1 => ?_)
  obtain ⟨g, h2, r2⟩ := w1.2.1.2.1
  refine xgf w1.1 rfl ?_
  refine xgf w1.2.1.1 rfl ?_
  refine xal h2 rfl hr (by decide) ?_
  have fr2 : frm h1 (xset h1 (A + 1 + 1) (xia 6 (upd g r (R (nrm (wN ω) f))))) (A + 1 + 1) (A + 1 + 2) := frm_set frm_rf (by omega) (by omega)
  have hs : isState (xset h1 (A + 1 + 1) (xia 6 (upd g r (R (nrm (wN ω) f))))) (A + 1) (setR ω.1 r f) := by
    refine ⟨xat_fr w1.2.1.1 fr2 (by omega), ⟨_, xat_sf h2.1, fun q hq => ?_⟩, w1.2.1.2.2.fr fr2 (by omega)⟩
    show upd g r _ q = R (nrm (wN ω) (if q = r then f else sR ω.1 q))
    unfold upd
    by_cases e : q = r
    · rw [if_pos e, if_pos e]
    · rw [if_neg e, if_neg e]; exact r2 q hq
  have w2 : isT _ A (wS ω (setR ω.1 r f)) := isT_sta (ω := rcd ω) w1 hs (frm_wd fr2 (by omega) (by omega))
  refine xgf w2.1 rfl ?_
  refine xgf w2.2.1.1 rfl ?_
  refine xci (sp_Perm_number k.1.2.1 hf _) ?_
  exact hQ _ _ ⟨rfl, w2, frm_tr fr1 fr2 (by omega) (by omega)⟩
