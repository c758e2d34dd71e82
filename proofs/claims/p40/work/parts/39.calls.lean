/-! THE CALLS, as the law uses them: the state is (words, sounds, registers, poem) -/
theorem cl_r {ZZ : Prop} {h0 h : xHp} {A : Nat} {ω : Wv} {g : xSig} {As : List Value} {o : Int32 × Wv} {v : Int32} {K : Int32 → xHp → Prop} (sp : SpecR g As h (pT h A o)) (ho : o = (v, ω)) (fr : frm h0 h A (A + 84)) (p : ∀ h', isT h' A ω → frm h0 h' A (A + 84) → K v h') : (∃ P : Option Value → xHp → Prop, SpecR g As h P ∧ ∀ (v : Int32) (h' : xHp), P (some (.int v)) h' → K v h') ∨ ZZ :=
  Or.inl ⟨_, sp, fun v' h' z => by
    obtain ⟨z1, z2, z3⟩ := z
    subst ho
    cases z1
    exact p h' z2 (frm_tr fr z3 (Nat.le_refl _) (Nat.le_refl _))⟩
theorem cl_w {ZZ : Prop} {h0 h : xHp} {A : Nat} {σ : Sv} {g : xSig} {As : List Value} {o : Int32 × Wv} {v : Int32} {K : Int32 → xHp → Prop} (sp : SpecR g As h (pT h A o)) (ko : wok o.2) (hv : o.1 = v) (hs : o.2.1 = σ) (fr : frm h0 h A (A + 84)) (p : ∀ h' ω', isT h' A ω' → wok ω' → ω'.1 = σ → frm h0 h' A (A + 84) → K v h') : (∃ P : Option Value → xHp → Prop, SpecR g As h P ∧ ∀ (v : Int32) (h' : xHp), P (some (.int v)) h' → K v h') ∨ ZZ :=
  Or.inl ⟨_, sp, fun v' h' z => by
    obtain ⟨z1, z2, z3⟩ := z
    cases z1
    subst hv
    exact p h' o.2 z2 ko hs (frm_tr fr z3 (Nat.le_refl _) (Nat.le_refl _))⟩
theorem cl_h {ZZ : Prop} {h0 h : xHp} {A : Nat} {σ : Sv} {l : List Sv} {g : xSig} {As : List Value} {o : Int32 × Wv} {v : Int32} {K : Int32 → xHp → Prop} (sp : SpecR g As h (pT h A o)) (ko : wok o.2) (hv : o.1 = v) (hs : o.2.1 = σ) (hl : o.2.2.1 = l) (fr : frm h0 h A (A + 84)) (p : ∀ h' ω', isT h' A ω' → wok ω' → ω'.1 = σ → ω'.2.1 = l → frm h0 h' A (A + 84) → K v h') : (∃ P : Option Value → xHp → Prop, SpecR g As h P ∧ ∀ (v : Int32) (h' : xHp), P (some (.int v)) h' → K v h') ∨ ZZ :=
  Or.inl ⟨_, sp, fun v' h' z => by
    obtain ⟨z1, z2, z3⟩ := z
    cases z1
    subst hv
    exact p h' o.2 z2 ko hs hl (frm_tr fr z3 (Nat.le_refl _) (Nat.le_refl _))⟩
theorem cl_turn {r q : Nat} {ZZ : Prop} {h0 h : xHp} {A n : Nat} {ω : Wv} {S : Nat → Nat} {F : Nat → Nat → Nat} {P : Pv} {K : Int32 → xHp → Prop} (w : isT h A ω) (k : wok ω) (fr : frm h0 h A (A + 84)) (e : ω.1 = (n, S, F, P)) (hr : r < 6) (hq : q < 7) (p : ∀ h', isT h' A ω → frm h0 h' A (A + 84) → K (nI (prp n (F r) q)) h') : (∃ P : Option Value → xHp → Prop, SpecR g_TV_turn [.ref A, .int (nI r), .int (nI q)] h P ∧ ∀ (v : Int32) (h' : xHp), P (some (.int v)) h' → K v h') ∨ ZZ := by
  obtain ⟨σ, l, t⟩ := ω
  have e : σ = (n, S, F, P) := e
  subst e
  refine cl_r (sp_TV_turn w k) ?_ fr p
  show stTurn ((n, S, F, P), l, t) (nI r) (nI q) = (nI (prp n (F r) q), ((n, S, F, P), l, t))
  unfold stTurn
  rw [gdS (ix_nI hr (by omega)), gdS (ix_nI hq (by omega))]
theorem cl_pow {a c to : Nat} {ZZ : Prop} {h0 h : xHp} {A n : Nat} {ω : Wv} {S : Nat → Nat} {F : Nat → Nat → Nat} {P : Pv} {K : Int32 → xHp → Prop} (w : isT h A ω) (k : wok ω) (fr : frm h0 h A (A + 84)) (e : ω.1 = (n, S, F, P)) (ha : a < 6) (hc : c ≤ 1000000) (ht : to < 6) (p : ∀ h' ω', isT h' A ω' → wok ω' → ω'.1 = (n, S, upF F to (itr (F a) c), P) → frm h0 h' A (A + 84) → K (nI (rank n (itr (F a) c))) h') : (∃ P : Option Value → xHp → Prop, SpecR g_TV_power [.ref A, .int (nI a), .int (nI c), .int (nI to)] h P ∧ ∀ (v : Int32) (h' : xHp), P (some (.int v)) h' → K v h') ∨ ZZ := by
  obtain ⟨σ, l, t⟩ := ω
  have e : σ = (n, S, F, P) := e
  subst e
  have ho : ∃ ω', stPower ((n, S, F, P), l, t) (nI a) (nI c) (nI to) = (nI (rank n (itr (F a) c)), ω') ∧ ω'.1 = (n, S, upF F to (itr (F a) c), P) := by
    unfold stPower
    rw [gdS (ix_nI ha (by omega)), nI_toInt (by omega), if_neg (by omega), gdS (ix_nI ht (by omega))]
    have hp : pwr n (F a) (c : Int) = itr (F a) c := by
      unfold pwr
      rw [if_neg (by omega)]
      rfl
    have hp : pwr (wN ((n, S, F, P), l, t)) (wG ((n, S, F, P), l, t) a) (c : Int) = itr (F a) c := hp
    rw [hp]
    exact ⟨_, rfl, rfl⟩
  obtain ⟨ω2, ho, hs⟩ := ho
  have k2 := wk_power k (nI a) (nI c) (nI to)
  rw [ho] at k2
  refine cl_w (sp_TV_power w k) (by rw [ho]; exact k2) (by rw [ho]) (by rw [ho]; exact hs) fr p
theorem cl_inv {a to : Nat} {ZZ : Prop} {h0 h : xHp} {A n : Nat} {ω : Wv} {S : Nat → Nat} {F : Nat → Nat → Nat} {P : Pv} {K : Int32 → xHp → Prop} (w : isT h A ω) (k : wok ω) (fr : frm h0 h A (A + 84)) (e : ω.1 = (n, S, F, P)) (ha : a < 6) (ht : to < 6) (p : ∀ h' ω', isT h' A ω' → wok ω' → ω'.1 = (n, S, upF F to (inv n (F a)), P) → frm h0 h' A (A + 84) → K (nI (rank n (inv n (F a)))) h') : (∃ P : Option Value → xHp → Prop, SpecR g_TV_power [.ref A, .int (nI a), .int (-1), .int (nI to)] h P ∧ ∀ (v : Int32) (h' : xHp), P (some (.int v)) h' → K v h') ∨ ZZ := by
  obtain ⟨σ, l, t⟩ := ω
  have e : σ = (n, S, F, P) := e
  subst e
  have ho : ∃ ω', stPower ((n, S, F, P), l, t) (nI a) (-1) (nI to) = (nI (rank n (inv n (F a))), ω') ∧ ω'.1 = (n, S, upF F to (inv n (F a)), P) := by
    unfold stPower
    rw [gdS (ix_nI ha (by omega)), show (-1 : Int32).toInt = -1 from rfl, if_neg (by omega), gdS (ix_nI ht (by omega))]
    have hp : pwr n (F a) (-1) = inv n (F a) := by
      unfold pwr
      rw [if_pos (by omega)]
      rfl
    have hp : pwr (wN ((n, S, F, P), l, t)) (wG ((n, S, F, P), l, t) a) (-1) = inv n (F a) := hp
    rw [hp]
    exact ⟨_, rfl, rfl⟩
  obtain ⟨ω2, ho, hs⟩ := ho
  have k2 := wk_power k (nI a) (-1) (nI to)
  rw [ho] at k2
  refine cl_w (sp_TV_power w k) (by rw [ho]; exact k2) (by rw [ho]) (by rw [ho]; exact hs) fr p
theorem cl_product {a b to : Nat} {ZZ : Prop} {h0 h : xHp} {A n : Nat} {ω : Wv} {S : Nat → Nat} {F : Nat → Nat → Nat} {P : Pv} {K : Int32 → xHp → Prop} (w : isT h A ω) (k : wok ω) (fr : frm h0 h A (A + 84)) (e : ω.1 = (n, S, F, P)) (ha : a < 6) (hb : b < 6) (ht : to < 6) (p : ∀ h' ω', isT h' A ω' → wok ω' → ω'.1 = (n, S, upF F to (fun i => F a (F b i)), P) → frm h0 h' A (A + 84) → K (nI (rank n (fun i => F a (F b i)))) h') : (∃ P : Option Value → xHp → Prop, SpecR g_TV_product [.ref A, .int (nI a), .int (nI b), .int (nI to)] h P ∧ ∀ (v : Int32) (h' : xHp), P (some (.int v)) h' → K v h') ∨ ZZ := by
  obtain ⟨σ, l, t⟩ := ω
  have e : σ = (n, S, F, P) := e
  subst e
  have ho : ∃ ω', stProduct ((n, S, F, P), l, t) (nI a) (nI b) (nI to) = (nI (rank n (fun i => F a (F b i))), ω') ∧ ω'.1 = (n, S, upF F to (fun i => F a (F b i)), P) := by
    unfold stProduct
    rw [gdS (ix_nI ha (by omega)), gdS (ix_nI hb (by omega)), gdS (ix_nI ht (by omega))]
    exact ⟨_, rfl, rfl⟩
  obtain ⟨ω2, ho, hs⟩ := ho
  have k2 := wk_product k (nI a) (nI b) (nI to)
  rw [ho] at k2
  refine cl_w (sp_TV_product w k) (by rw [ho]; exact k2) (by rw [ho]) (by rw [ho]; exact hs) fr p
theorem cl_gen {s : Nat} {ZZ : Prop} {h0 h : xHp} {A n : Nat} {ω : Wv} {S : Nat → Nat} {F : Nat → Nat → Nat} {P : Pv} {K : Int32 → xHp → Prop} (w : isT h A ω) (k : wok ω) (fr : frm h0 h A (A + 84)) (e : ω.1 = (n, S, F, P)) (hs : s < 64) (p : ∀ h', isT h' A ω → frm h0 h' A (A + 84) → K (nI (bc (bfs n s F))) h') : (∃ P : Option Value → xHp → Prop, SpecR g_TV_generated [.ref A, .int (nI s)] h P ∧ ∀ (v : Int32) (h' : xHp), P (some (.int v)) h' → K v h') ∨ ZZ := by
  obtain ⟨σ, l, t⟩ := ω
  have e : σ = (n, S, F, P) := e
  subst e
  refine cl_r (sp_TV_generated w k) ?_ fr p
  show stGenerated ((n, S, F, P), l, t) (nI s) = (nI (bc (bfs n s F)), ((n, S, F, P), l, t))
  unfold stGenerated
  rw [gdS (ix_nI hs (by omega))]
theorem cl_make0 {r : Nat} {ZZ : Prop} {h0 h : xHp} {A n : Nat} {ω : Wv} {S : Nat → Nat} {F : Nat → Nat → Nat} {P : Pv} {K : Int32 → xHp → Prop} (w : isT h A ω) (k : wok ω) (fr : frm h0 h A (A + 84)) (e : ω.1 = (n, S, F, P)) (hr : r < 6) (hn : 0 < n) (p : ∀ h' ω', isT h' A ω' → wok ω' → ω'.1 = (n, S, upF F r (fun i => i), P) → frm h0 h' A (A + 84) → K (nI (rank n (fun i => i))) h') : (∃ P : Option Value → xHp → Prop, SpecR g_TV_make [.ref A, .int (nI r), .int (nI 0), .int (nI 0)] h P ∧ ∀ (v : Int32) (h' : xHp), P (some (.int v)) h' → K v h') ∨ ZZ := by
  obtain ⟨σ, l, t⟩ := ω
  have e : σ = (n, S, F, P) := e
  subst e
  have ho : ∃ ω', stMake ((n, S, F, P), l, t) (nI r) (nI 0) (nI 0) = (nI (rank n (fun i => i)), ω') ∧ ω'.1 = (n, S, upF F r (fun i => i), P) := by
    unfold stMake
    rw [gdS (ix_nI hr (by omega)), gdS (ix_nI (show 0 < 6 by omega) (by omega)), gdS (ix_nI (show 0 < wN ((n, S, F, P), l, t) from hn) (by have := k.1.2.1; have : n ≤ 7 := this; show n ≤ 2147483648; omega))]
    exact ⟨_, rfl, rfl⟩
  obtain ⟨ω2, ho, hs⟩ := ho
  have k2 := wk_make k (nI r) (nI 0) (nI 0)
  rw [ho] at k2
  refine cl_w (sp_TV_make w k) (by rw [ho]; exact k2) (by rw [ho]) (by rw [ho]; exact hs) fr p
theorem cl_unrank {r x : Nat} {ZZ : Prop} {h0 h : xHp} {A n : Nat} {ω : Wv} {S : Nat → Nat} {F : Nat → Nat → Nat} {P : Pv} {K : Int32 → xHp → Prop} (w : isT h A ω) (k : wok ω) (fr : frm h0 h A (A + 84)) (e : ω.1 = (n, S, F, P)) (hr : r < 6) (hx : x < fct n) (p : ∀ h' ω', isT h' A ω' → wok ω' → ω'.1 = (n, S, upF F r (unr n x), P) → frm h0 h' A (A + 84) → K (nI (ord n (unr n x))) h') : (∃ P : Option Value → xHp → Prop, SpecR g_TV_unrank [.ref A, .int (nI r), .int (nI x)] h P ∧ ∀ (v : Int32) (h' : xHp), P (some (.int v)) h' → K v h') ∨ ZZ := by
  obtain ⟨σ, l, t⟩ := ω
  have e : σ = (n, S, F, P) := e
  subst e
  have ho : ∃ ω', stUnrank ((n, S, F, P), l, t) (nI r) (nI x) = (nI (ord n (unr n x)), ω') ∧ ω'.1 = (n, S, upF F r (unr n x), P) := by
    unfold stUnrank
    have := fct_le k.1.2.1
    have : fct n ≤ 5040 := this
    rw [gdS (ix_nI hr (by omega)), gdS (ix_nI (show x < fct (wN ((n, S, F, P), l, t)) from hx) (by show fct n ≤ 2147483648; omega))]
    exact ⟨_, rfl, rfl⟩
  obtain ⟨ω2, ho, hs⟩ := ho
  have k2 := wk_unrank k (nI r) (nI x)
  rw [ho] at k2
  refine cl_w (sp_TV_unrank w k) (by rw [ho]; exact k2) (by rw [ho]) (by rw [ho]; exact hs) fr p
theorem cl_unrank_bad {r x : Nat} {ZZ : Prop} {h0 h : xHp} {A n : Nat} {ω : Wv} {S : Nat → Nat} {F : Nat → Nat → Nat} {P : Pv} {K : Int32 → xHp → Prop} (w : isT h A ω) (k : wok ω) (fr : frm h0 h A (A + 84)) (e : ω.1 = (n, S, F, P)) (hr : r < 6) (hx : x = fct n) (p : ∀ h', isT h' A ω → frm h0 h' A (A + 84) → K (-1) h') : (∃ P : Option Value → xHp → Prop, SpecR g_TV_unrank [.ref A, .int (nI r), .int (nI x)] h P ∧ ∀ (v : Int32) (h' : xHp), P (some (.int v)) h' → K v h') ∨ ZZ := by
  obtain ⟨σ, l, t⟩ := ω
  have e : σ = (n, S, F, P) := e
  subst e
  refine cl_r (sp_TV_unrank w k) ?_ fr p
  show stUnrank ((n, S, F, P), l, t) (nI r) (nI x) = (-1, ((n, S, F, P), l, t))
  unfold stUnrank
  have := fct_le k.1.2.1
  have : fct n ≤ 5040 := this
  rw [gdS (ix_nI hr (by omega)), gdN]
  refine ix_ge (m := fct n) (by omega) ?_
  rw [hx]
  exact nI_le (Nat.le_refl _) (by omega)
theorem cl_reach {s r : Nat} {ZZ : Prop} {h0 h : xHp} {A n : Nat} {ω : Wv} {S : Nat → Nat} {F : Nat → Nat → Nat} {P : Pv} {K : Int32 → xHp → Prop} (w : isT h A ω) (k : wok ω) (fr : frm h0 h A (A + 84)) (e : ω.1 = (n, S, F, P)) (hs : s < 64) (hr : r < 6) (p : ∀ h', isT h' A ω → frm h0 h' A (A + 84) → K (if bd (bfs n s F) (rank n (F r)) = 0 then -9 else nI (bd (bfs n s F) (rank n (F r)) - 1)) h') : (∃ P : Option Value → xHp → Prop, SpecR g_TV_reach [.ref A, .int (nI s), .int (nI r)] h P ∧ ∀ (v : Int32) (h' : xHp), P (some (.int v)) h' → K v h') ∨ ZZ := by
  obtain ⟨σ, l, t⟩ := ω
  have e : σ = (n, S, F, P) := e
  subst e
  refine cl_r (sp_TV_reach w k) ?_ fr p
  show stReach ((n, S, F, P), l, t) (nI s) (nI r) = (if bd (bfs n s F) (rank n (F r)) = 0 then -9 else nI (bd (bfs n s F) (rank n (F r)) - 1), ((n, S, F, P), l, t))
  unfold stReach
  rw [gdS (ix_nI hs (by omega)), gdS (ix_nI hr (by omega))]
theorem cl_reach_n {s r : Nat} {ZZ : Prop} {h0 h : xHp} {A n : Nat} {ω : Wv} {S : Nat → Nat} {F : Nat → Nat → Nat} {P : Pv} {K : Int32 → xHp → Prop} (w : isT h A ω) (k : wok ω) (fr : frm h0 h A (A + 84)) (e : ω.1 = (n, S, F, P)) (hs : s < 64) (hr : r < 6) (hb : bd (bfs n s F) (rank n (F r)) = 0) (p : ∀ h', isT h' A ω → frm h0 h' A (A + 84) → K (-9) h') : (∃ P : Option Value → xHp → Prop, SpecR g_TV_reach [.ref A, .int (nI s), .int (nI r)] h P ∧ ∀ (v : Int32) (h' : xHp), P (some (.int v)) h' → K v h') ∨ ZZ := by
  obtain ⟨σ, l, t⟩ := ω
  have e : σ = (n, S, F, P) := e
  subst e
  refine cl_r (sp_TV_reach w k) ?_ fr p
  show stReach ((n, S, F, P), l, t) (nI s) (nI r) = (-9, ((n, S, F, P), l, t))
  unfold stReach
  rw [gdS (ix_nI hs (by omega)), gdS (ix_nI hr (by omega))]
  rw [if_pos (show bd (bfs (wN ((n, S, F, P), l, t)) s (wG ((n, S, F, P), l, t))) (rank (wN ((n, S, F, P), l, t)) (wG ((n, S, F, P), l, t) r)) = 0 from hb)]
theorem cl_reach_y {s r : Nat} {ZZ : Prop} {h0 h : xHp} {A n : Nat} {ω : Wv} {S : Nat → Nat} {F : Nat → Nat → Nat} {P : Pv} {K : Int32 → xHp → Prop} (w : isT h A ω) (k : wok ω) (fr : frm h0 h A (A + 84)) (e : ω.1 = (n, S, F, P)) (hs : s < 64) (hr : r < 6) (hb : bd (bfs n s F) (rank n (F r)) ≠ 0) (p : ∀ h', isT h' A ω → frm h0 h' A (A + 84) → K (nI (bd (bfs n s F) (rank n (F r)) - 1)) h') : (∃ P : Option Value → xHp → Prop, SpecR g_TV_reach [.ref A, .int (nI s), .int (nI r)] h P ∧ ∀ (v : Int32) (h' : xHp), P (some (.int v)) h' → K v h') ∨ ZZ := by
  obtain ⟨σ, l, t⟩ := ω
  have e : σ = (n, S, F, P) := e
  subst e
  refine cl_r (sp_TV_reach w k) ?_ fr p
  show stReach ((n, S, F, P), l, t) (nI s) (nI r) = (nI (bd (bfs n s F) (rank n (F r)) - 1), ((n, S, F, P), l, t))
  unfold stReach
  rw [gdS (ix_nI hs (by omega)), gdS (ix_nI hr (by omega))]
  rw [if_neg (show ¬ bd (bfs (wN ((n, S, F, P), l, t)) s (wG ((n, S, F, P), l, t))) (rank (wN ((n, S, F, P), l, t)) (wG ((n, S, F, P), l, t) r)) = 0 from hb)]
theorem cl_factor_y {s r i : Nat} {ZZ : Prop} {h0 h : xHp} {A n : Nat} {ω : Wv} {S : Nat → Nat} {F : Nat → Nat → Nat} {P : Pv} {K : Int32 → xHp → Prop} (w : isT h A ω) (k : wok ω) (fr : frm h0 h A (A + 84)) (e : ω.1 = (n, S, F, P)) (hs : s < 64) (hr : r < 6) (hi : i < 2147483648) (hb : i + 2 ≤ bd (bfs n s F) (rank n (F r))) (p : ∀ h', isT h' A ω → frm h0 h' A (A + 84) → K (nI (fac n s F (bfs n s F) i (F r))) h') : (∃ P : Option Value → xHp → Prop, SpecR g_TV_factor [.ref A, .int (nI s), .int (nI r), .int (nI i)] h P ∧ ∀ (v : Int32) (h' : xHp), P (some (.int v)) h' → K v h') ∨ ZZ := by
  obtain ⟨σ, l, t⟩ := ω
  have e : σ = (n, S, F, P) := e
  subst e
  refine cl_r (sp_TV_factor w k) ?_ fr p
  show stFactor ((n, S, F, P), l, t) (nI s) (nI r) (nI i) = (nI (fac n s F (bfs n s F) i (F r)), ((n, S, F, P), l, t))
  unfold stFactor
  rw [gdS (ix_nI hs (by omega)), gdS (ix_nI hr (by omega))]
  rw [nI_toInt hi, if_neg (by omega)]
  rw [if_pos (show ((i : Nat) : Int).toNat + 2 ≤ bd (bfs (wN ((n, S, F, P), l, t)) s (wG ((n, S, F, P), l, t))) (rank (wN ((n, S, F, P), l, t)) (wG ((n, S, F, P), l, t) r)) from hb)]
  rfl
theorem cl_factor_n {s r i : Nat} {ZZ : Prop} {h0 h : xHp} {A n : Nat} {ω : Wv} {S : Nat → Nat} {F : Nat → Nat → Nat} {P : Pv} {K : Int32 → xHp → Prop} (w : isT h A ω) (k : wok ω) (fr : frm h0 h A (A + 84)) (e : ω.1 = (n, S, F, P)) (hs : s < 64) (hr : r < 6) (hi : i < 2147483648) (hb : ¬ i + 2 ≤ bd (bfs n s F) (rank n (F r))) (p : ∀ h', isT h' A ω → frm h0 h' A (A + 84) → K (-9) h') : (∃ P : Option Value → xHp → Prop, SpecR g_TV_factor [.ref A, .int (nI s), .int (nI r), .int (nI i)] h P ∧ ∀ (v : Int32) (h' : xHp), P (some (.int v)) h' → K v h') ∨ ZZ := by
  obtain ⟨σ, l, t⟩ := ω
  have e : σ = (n, S, F, P) := e
  subst e
  refine cl_r (sp_TV_factor w k) ?_ fr p
  show stFactor ((n, S, F, P), l, t) (nI s) (nI r) (nI i) = (-9, ((n, S, F, P), l, t))
  unfold stFactor
  rw [gdS (ix_nI hs (by omega)), gdS (ix_nI hr (by omega))]
  rw [nI_toInt hi, if_neg (by omega)]
  rw [if_neg (show ¬ ((i : Nat) : Int).toNat + 2 ≤ bd (bfs (wN ((n, S, F, P), l, t)) s (wG ((n, S, F, P), l, t))) (rank (wN ((n, S, F, P), l, t)) (wG ((n, S, F, P), l, t) r)) from hb)]
theorem cl_factor {s r i : Nat} {ZZ : Prop} {h0 h : xHp} {A n : Nat} {ω : Wv} {S : Nat → Nat} {F : Nat → Nat → Nat} {P : Pv} {K : Int32 → xHp → Prop} (w : isT h A ω) (k : wok ω) (fr : frm h0 h A (A + 84)) (e : ω.1 = (n, S, F, P)) (hs : s < 64) (hr : r < 6) (hi : i < 2147483648) (p : ∀ h', isT h' A ω → frm h0 h' A (A + 84) → K (if i + 2 ≤ bd (bfs n s F) (rank n (F r)) then nI (fac n s F (bfs n s F) i (F r)) else -9) h') : (∃ P : Option Value → xHp → Prop, SpecR g_TV_factor [.ref A, .int (nI s), .int (nI r), .int (nI i)] h P ∧ ∀ (v : Int32) (h' : xHp), P (some (.int v)) h' → K v h') ∨ ZZ := by
  obtain ⟨σ, l, t⟩ := ω
  have e : σ = (n, S, F, P) := e
  subst e
  refine cl_r (sp_TV_factor w k) ?_ fr p
  show stFactor ((n, S, F, P), l, t) (nI s) (nI r) (nI i) = (if i + 2 ≤ bd (bfs n s F) (rank n (F r)) then nI (fac n s F (bfs n s F) i (F r)) else -9, ((n, S, F, P), l, t))
  unfold stFactor
  rw [gdS (ix_nI hs (by omega)), gdS (ix_nI hr (by omega))]
  rw [nI_toInt hi, if_neg (by omega)]
  rfl
theorem cl_root_y {a c to : Nat} {ZZ : Prop} {h0 h : xHp} {A n : Nat} {ω : Wv} {S : Nat → Nat} {F : Nat → Nat → Nat} {P : Pv} {K : Int32 → xHp → Prop} (w : isT h A ω) (k : wok ω) (fr : frm h0 h A (A + 84)) (e : ω.1 = (n, S, F, P)) (ha : a < 6) (h1 : 1 ≤ c) (hc : c < 13) (ht : to < 6) (hx : rt n (F a) c < fct n) (p : ∀ h' ω', isT h' A ω' → wok ω' → ω'.1 = (n, S, upF F to (unr n (rt n (F a) c)), P) → frm h0 h' A (A + 84) → K (nI (rank n (unr n (rt n (F a) c)))) h') : (∃ P : Option Value → xHp → Prop, SpecR g_TV_root [.ref A, .int (nI a), .int (nI c), .int (nI to)] h P ∧ ∀ (v : Int32) (h' : xHp), P (some (.int v)) h' → K v h') ∨ ZZ := by
  obtain ⟨σ, l, t⟩ := ω
  have e : σ = (n, S, F, P) := e
  subst e
  have ho : ∃ ω', stRoot ((n, S, F, P), l, t) (nI a) (nI c) (nI to) = (nI (rank n (unr n (rt n (F a) c))), ω') ∧ ω'.1 = (n, S, upF F to (unr n (rt n (F a) c)), P) := by
    unfold stRoot
    rw [gdS (ix_nI ha (by omega)), gdS (ix_nI hc (by omega)), if_neg (by omega), gdS (ix_nI ht (by omega))]
    rw [if_pos (show rt (wN ((n, S, F, P), l, t)) (wG ((n, S, F, P), l, t) a) c < fct (wN ((n, S, F, P), l, t)) from hx)]
    exact ⟨_, rfl, rfl⟩
  obtain ⟨ω2, ho, hs⟩ := ho
  have k2 := wk_root k (nI a) (nI c) (nI to)
  rw [ho] at k2
  refine cl_w (sp_TV_root w k) (by rw [ho]; exact k2) (by rw [ho]) (by rw [ho]; exact hs) fr p
theorem cl_root_n {a c to : Nat} {ZZ : Prop} {h0 h : xHp} {A n : Nat} {ω : Wv} {S : Nat → Nat} {F : Nat → Nat → Nat} {P : Pv} {K : Int32 → xHp → Prop} (w : isT h A ω) (k : wok ω) (fr : frm h0 h A (A + 84)) (e : ω.1 = (n, S, F, P)) (ha : a < 6) (h1 : 1 ≤ c) (hc : c < 13) (ht : to < 6) (hx : ¬ rt n (F a) c < fct n) (p : ∀ h' ω', isT h' A ω' → wok ω' → ω'.1 = (n, S, F, P) → frm h0 h' A (A + 84) → K (-9) h') : (∃ P : Option Value → xHp → Prop, SpecR g_TV_root [.ref A, .int (nI a), .int (nI c), .int (nI to)] h P ∧ ∀ (v : Int32) (h' : xHp), P (some (.int v)) h' → K v h') ∨ ZZ := by
  obtain ⟨σ, l, t⟩ := ω
  have e : σ = (n, S, F, P) := e
  subst e
  have ho : ∃ ω', stRoot ((n, S, F, P), l, t) (nI a) (nI c) (nI to) = (-9, ω') ∧ ω'.1 = (n, S, F, P) := by
    unfold stRoot
    rw [gdS (ix_nI ha (by omega)), gdS (ix_nI hc (by omega)), if_neg (by omega), gdS (ix_nI ht (by omega))]
    rw [if_neg (show ¬ rt (wN ((n, S, F, P), l, t)) (wG ((n, S, F, P), l, t) a) c < fct (wN ((n, S, F, P), l, t)) from hx)]
    exact ⟨_, rfl, rfl⟩
  obtain ⟨ω2, ho, hs⟩ := ho
  have k2 := wk_root k (nI a) (nI c) (nI to)
  rw [ho] at k2
  refine cl_w (sp_TV_root w k) (by rw [ho]; exact k2) (by rw [ho]) (by rw [ho]; exact hs) fr p
theorem cl_setWords {m : Nat} {ZZ : Prop} {h0 h : xHp} {A n : Nat} {ω : Wv} {S : Nat → Nat} {F : Nat → Nat → Nat} {P : Pv} {K : Int32 → xHp → Prop} (w : isT h A ω) (k : wok ω) (fr : frm h0 h A (A + 84)) (e : ω.1 = (n, S, F, P)) (h2 : 2 ≤ m) (h7 : m < 8) (p : ∀ h' ω', isT h' A ω' → wok ω' → ω'.1 = st0 m → frm h0 h' A (A + 84) → K (nI n) h') : (∃ P : Option Value → xHp → Prop, SpecR g_TV_setWords [.ref A, .int (nI m)] h P ∧ ∀ (v : Int32) (h' : xHp), P (some (.int v)) h' → K v h') ∨ ZZ := by
  obtain ⟨σ, l, t⟩ := ω
  have e : σ = (n, S, F, P) := e
  subst e
  have ho : ∃ ω', stSetWords ((n, S, F, P), l, t) (nI m) = (nI n, ω') ∧ ω'.1 = st0 m := by
    unfold stSetWords
    rw [gdS (ix_nI h7 (by omega)), if_neg (by omega)]
    exact ⟨_, rfl, rfl⟩
  obtain ⟨ω2, ho, hs⟩ := ho
  have k2 := wk_setWords k (nI m)
  rw [ho] at k2
  refine cl_w (sp_TV_setWords w k) (by rw [ho]; exact k2) (by rw [ho]) (by rw [ho]; exact hs) fr p
theorem cl_add {r : Nat} {ZZ : Prop} {h0 h : xHp} {A n : Nat} {ω : Wv} {S : Nat → Nat} {F : Nat → Nat → Nat} {P : Pv} {K : Int32 → xHp → Prop} (w : isT h A ω) (k : wok ω) (fr : frm h0 h A (A + 84)) (e : ω.1 = (n, S, F, P)) (hr : r < 6) (h8 : pc P < 8) (p : ∀ h' ω', isT h' A ω' → wok ω' → ω'.1 = (n, S, F, padd P (fun i => if pc P = 0 then i else pst P (pc P - 1) (F r i))) → frm h0 h' A (A + 84) → K (nI (pc P + 1)) h') : (∃ P : Option Value → xHp → Prop, SpecR g_TV_add [.ref A, .int (nI r)] h P ∧ ∀ (v : Int32) (h' : xHp), P (some (.int v)) h' → K v h') ∨ ZZ := by
  obtain ⟨σ, l, t⟩ := ω
  have e : σ = (n, S, F, P) := e
  subst e
  have ho : ∃ ω', stAdd ((n, S, F, P), l, t) (nI r) = (nI (pc P + 1), ω') ∧ ω'.1 = (n, S, F, padd P (fun i => if pc P = 0 then i else pst P (pc P - 1) (F r i))) := by
    unfold stAdd
    rw [gdS (ix_nI hr (by omega)), if_neg (show ¬ 8 ≤ pc (wP ((n, S, F, P), l, t)) from Nat.not_le.mpr h8)]
    exact ⟨_, rfl, rfl⟩
  obtain ⟨ω2, ho, hs⟩ := ho
  have k2 := wk_add k (nI r)
  rw [ho] at k2
  refine cl_w (sp_TV_add w k) (by rw [ho]; exact k2) (by rw [ho]) (by rw [ho]; exact hs) fr p
theorem cl_add_bad  {ZZ : Prop} {h0 h : xHp} {A n : Nat} {ω : Wv} {S : Nat → Nat} {F : Nat → Nat → Nat} {P : Pv} {K : Int32 → xHp → Prop} (w : isT h A ω) (k : wok ω) (fr : frm h0 h A (A + 84)) (e : ω.1 = (n, S, F, P))  (p : ∀ h', isT h' A ω → frm h0 h' A (A + 84) → K (-1) h') : (∃ P : Option Value → xHp → Prop, SpecR g_TV_add [.ref A, .int (nI 6)] h P ∧ ∀ (v : Int32) (h' : xHp), P (some (.int v)) h' → K v h') ∨ ZZ := by
  obtain ⟨σ, l, t⟩ := ω
  have e : σ = (n, S, F, P) := e
  subst e
  refine cl_r (sp_TV_add w k) ?_ fr p
  show stAdd ((n, S, F, P), l, t) (nI 6) = (-1, ((n, S, F, P), l, t))
  unfold stAdd
  rw [gdN (ix_ge (m := 6) (by omega) (nI_le (Nat.le_refl _) (by omega)))]
theorem cl_proper {s : Nat} {ZZ : Prop} {h0 h : xHp} {A n : Nat} {ω : Wv} {S : Nat → Nat} {F : Nat → Nat → Nat} {P : Pv} {K : Int32 → xHp → Prop} (w : isT h A ω) (k : wok ω) (fr : frm h0 h A (A + 84)) (e : ω.1 = (n, S, F, P)) (hs : s < pc P) (p : ∀ h', isT h' A ω → frm h0 h' A (A + 84) → K (nI (if prop n (pst P s) = true then 1 else 0)) h') : (∃ P : Option Value → xHp → Prop, SpecR g_TV_proper [.ref A, .int (nI s)] h P ∧ ∀ (v : Int32) (h' : xHp), P (some (.int v)) h' → K v h') ∨ ZZ := by
  obtain ⟨σ, l, t⟩ := ω
  have e : σ = (n, S, F, P) := e
  subst e
  refine cl_r (sp_TV_proper w k) ?_ fr p
  show stProper ((n, S, F, P), l, t) (nI s) = (nI (if prop n (pst P s) = true then 1 else 0), ((n, S, F, P), l, t))
  unfold stProper
  rw [gdS (ix_nI (show s < pc (wP ((n, S, F, P), l, t)) from hs) (by have := k.1.2.2.2.2.1; have : pc P ≤ 8 := this; show pc P ≤ 2147483648; omega))]
theorem cl_follows {r : Nat} {ZZ : Prop} {h0 h : xHp} {A n : Nat} {ω : Wv} {S : Nat → Nat} {F : Nat → Nat → Nat} {P : Pv} {K : Int32 → xHp → Prop} (w : isT h A ω) (k : wok ω) (fr : frm h0 h A (A + 84)) (e : ω.1 = (n, S, F, P)) (hr : r < 6) (p : ∀ h', isT h' A ω → frm h0 h' A (A + 84) → K (nI (flI n P (F r))) h') : (∃ P : Option Value → xHp → Prop, SpecR g_TV_follows [.ref A, .int (nI r)] h P ∧ ∀ (v : Int32) (h' : xHp), P (some (.int v)) h' → K v h') ∨ ZZ := by
  obtain ⟨σ, l, t⟩ := ω
  have e : σ = (n, S, F, P) := e
  subst e
  refine cl_r (sp_TV_follows w k) ?_ fr p
  show stFollows ((n, S, F, P), l, t) (nI r) = (nI (flI n P (F r)), ((n, S, F, P), l, t))
  unfold stFollows
  rw [gdS (ix_nI hr (by omega))]
theorem cl_cost {r : Nat} {ZZ : Prop} {h0 h : xHp} {A n : Nat} {ω : Wv} {S : Nat → Nat} {F : Nat → Nat → Nat} {P : Pv} {K : Int32 → xHp → Prop} (w : isT h A ω) (k : wok ω) (fr : frm h0 h A (A + 84)) (e : ω.1 = (n, S, F, P)) (hr : r < 6) (hp0 : pc P ≠ 0) (p : ∀ h', isT h' A ω → frm h0 h' A (A + 84) → K (cstI n (F r) P) h') : (∃ P : Option Value → xHp → Prop, SpecR g_TV_cost [.ref A, .int (nI r)] h P ∧ ∀ (v : Int32) (h' : xHp), P (some (.int v)) h' → K v h') ∨ ZZ := by
  obtain ⟨σ, l, t⟩ := ω
  have e : σ = (n, S, F, P) := e
  subst e
  refine cl_r (sp_TV_cost w k) ?_ fr p
  show stCost ((n, S, F, P), l, t) (nI r) = (cstI n (F r) P, ((n, S, F, P), l, t))
  unfold stCost
  rw [gdS (ix_nI hr (by omega)), if_neg (show ¬ pc (wP ((n, S, F, P), l, t)) = 0 from hp0)]
theorem cl_common_y {to : Nat} {ZZ : Prop} {h0 h : xHp} {A n : Nat} {ω : Wv} {S : Nat → Nat} {F : Nat → Nat → Nat} {P : Pv} {K : Int32 → xHp → Prop} (w : isT h A ω) (k : wok ω) (fr : frm h0 h A (A + 84)) (e : ω.1 = (n, S, F, P)) (ht : to < 6) (hx : tbh n P 0 = true ∧ flw n P (tbp n P 0) = true) (p : ∀ h' ω', isT h' A ω' → wok ω' → ω'.1 = (n, S, upF F to (tbp n P 0), P) → frm h0 h' A (A + 84) → K (nI (rank n (tbp n P 0))) h') : (∃ P : Option Value → xHp → Prop, SpecR g_TV_common [.ref A, .int (nI to)] h P ∧ ∀ (v : Int32) (h' : xHp), P (some (.int v)) h' → K v h') ∨ ZZ := by
  obtain ⟨σ, l, t⟩ := ω
  have e : σ = (n, S, F, P) := e
  subst e
  have ho : ∃ ω', stCommon ((n, S, F, P), l, t) (nI to) = (nI (rank n (tbp n P 0)), ω') ∧ ω'.1 = (n, S, upF F to (tbp n P 0), P) := by
    unfold stCommon
    rw [gdS (ix_nI ht (by omega)), if_pos (show tbh (wN ((n, S, F, P), l, t)) (wP ((n, S, F, P), l, t)) 0 = true ∧ flw (wN ((n, S, F, P), l, t)) (wP ((n, S, F, P), l, t)) (tbp (wN ((n, S, F, P), l, t)) (wP ((n, S, F, P), l, t)) 0) = true from hx)]
    exact ⟨_, rfl, rfl⟩
  obtain ⟨ω2, ho, hs⟩ := ho
  have k2 := wk_common k (nI to)
  rw [ho] at k2
  refine cl_w (sp_TV_common w k) (by rw [ho]; exact k2) (by rw [ho]) (by rw [ho]; exact hs) fr p
theorem cl_common_n {to : Nat} {ZZ : Prop} {h0 h : xHp} {A n : Nat} {ω : Wv} {S : Nat → Nat} {F : Nat → Nat → Nat} {P : Pv} {K : Int32 → xHp → Prop} (w : isT h A ω) (k : wok ω) (fr : frm h0 h A (A + 84)) (e : ω.1 = (n, S, F, P)) (ht : to < 6) (hx : ¬ tbh n P 0 = true) (p : ∀ h' ω', isT h' A ω' → wok ω' → ω'.1 = (n, S, F, P) → frm h0 h' A (A + 84) → K (-9) h') : (∃ P : Option Value → xHp → Prop, SpecR g_TV_common [.ref A, .int (nI to)] h P ∧ ∀ (v : Int32) (h' : xHp), P (some (.int v)) h' → K v h') ∨ ZZ := by
  obtain ⟨σ, l, t⟩ := ω
  have e : σ = (n, S, F, P) := e
  subst e
  have ho : ∃ ω', stCommon ((n, S, F, P), l, t) (nI to) = (-9, ω') ∧ ω'.1 = (n, S, F, P) := by
    unfold stCommon
    rw [gdS (ix_nI ht (by omega)), if_neg (show ¬ (tbh (wN ((n, S, F, P), l, t)) (wP ((n, S, F, P), l, t)) 0 = true ∧ flw (wN ((n, S, F, P), l, t)) (wP ((n, S, F, P), l, t)) (tbp (wN ((n, S, F, P), l, t)) (wP ((n, S, F, P), l, t)) 0) = true) from fun z => hx z.1)]
    exact ⟨_, rfl, rfl⟩
  obtain ⟨ω2, ho, hs⟩ := ho
  have k2 := wk_common k (nI to)
  rw [ho] at k2
  refine cl_w (sp_TV_common w k) (by rw [ho]; exact k2) (by rw [ho]) (by rw [ho]; exact hs) fr p
theorem cl_put {s i x : Nat} {ZZ : Prop} {h0 h : xHp} {A n : Nat} {ω : Wv} {S : Nat → Nat} {F : Nat → Nat → Nat} {P : Pv} {K : Int32 → xHp → Prop} (w : isT h A ω) (k : wok ω) (fr : frm h0 h A (A + 84)) (e : ω.1 = (n, S, F, P)) (hs : s < pc P) (hi : i < n) (hx : x < n) (p : ∀ h' ω', isT h' A ω' → wok ω' → ω'.1 = (n, S, F, pput P s i x) → frm h0 h' A (A + 84) → K (nI (pst P s i)) h') : (∃ P : Option Value → xHp → Prop, SpecR g_TV_put [.ref A, .int (nI s), .int (nI i), .int (nI x)] h P ∧ ∀ (v : Int32) (h' : xHp), P (some (.int v)) h' → K v h') ∨ ZZ := by
  obtain ⟨σ, l, t⟩ := ω
  have e : σ = (n, S, F, P) := e
  subst e
  have ho : ∃ ω', stPut ((n, S, F, P), l, t) (nI s) (nI i) (nI x) = (nI (pst P s i), ω') ∧ ω'.1 = (n, S, F, pput P s i x) := by
    unfold stPut
    rw [gdS (ix_nI (show s < pc (wP ((n, S, F, P), l, t)) from hs) (by have := k.1.2.2.2.2.1; have : pc P ≤ 8 := this; show pc P ≤ 2147483648; omega)), gdS (ix_nI (show i < wN ((n, S, F, P), l, t) from hi) (by have := k.1.2.1; have : n ≤ 7 := this; show n ≤ 2147483648; omega)), gdS (ix_nI (show x < wN ((n, S, F, P), l, t) from hx) (by have := k.1.2.1; have : n ≤ 7 := this; show n ≤ 2147483648; omega))]
    exact ⟨_, rfl, rfl⟩
  obtain ⟨ω2, ho, hs⟩ := ho
  have k2 := wk_put k (nI s) (nI i) (nI x)
  rw [ho] at k2
  refine cl_w (sp_TV_put w k) (by rw [ho]; exact k2) (by rw [ho]) (by rw [ho]; exact hs) fr p
theorem cl_best {to : Nat} {ZZ : Prop} {h0 h : xHp} {A n : Nat} {ω : Wv} {S : Nat → Nat} {F : Nat → Nat → Nat} {P : Pv} {K : Int32 → xHp → Prop} (w : isT h A ω) (k : wok ω) (fr : frm h0 h A (A + 84)) (e : ω.1 = (n, S, F, P)) (ht : to < 6) (hp0 : pc P ≠ 0) (hb : (bst (mk n P) (fct n)).1 ≠ 0) (p : ∀ h' ω', isT h' A ω' → wok ω' → ω'.1 = (n, S, upF F to (unr n (bst (mk n P) (fct n)).2), P) → frm h0 h' A (A + 84) → K (cstI n (unr n (bst (mk n P) (fct n)).2) P) h') : (∃ P : Option Value → xHp → Prop, SpecR g_TV_best [.ref A, .int (nI to)] h P ∧ ∀ (v : Int32) (h' : xHp), P (some (.int v)) h' → K v h') ∨ ZZ := by
  obtain ⟨σ, l, t⟩ := ω
  have e : σ = (n, S, F, P) := e
  subst e
  have ho : ∃ ω', stBest ((n, S, F, P), l, t) (nI to) = (cstI n (unr n (bst (mk n P) (fct n)).2) P, ω') ∧ ω'.1 = (n, S, upF F to (unr n (bst (mk n P) (fct n)).2), P) := by
    unfold stBest
    rw [gdS (ix_nI ht (by omega)), if_neg (show ¬ pc (wP ((n, S, F, P), l, t)) = 0 from hp0), if_neg (show ¬ (bst (mk (wN ((n, S, F, P), l, t)) (wP ((n, S, F, P), l, t))) (fct (wN ((n, S, F, P), l, t)))).1 = 0 from hb)]
    exact ⟨_, rfl, rfl⟩
  obtain ⟨ω2, ho, hs⟩ := ho
  have k2 := wk_best k (nI to)
  rw [ho] at k2
  refine cl_w (sp_TV_best w k) (by rw [ho]; exact k2) (by rw [ho]) (by rw [ho]; exact hs) fr p
theorem cl_word {s i : Nat} {ZZ : Prop} {h0 h : xHp} {A n : Nat} {ω : Wv} {S : Nat → Nat} {F : Nat → Nat → Nat} {P : Pv} {K : Int32 → xHp → Prop} (w : isT h A ω) (k : wok ω) (fr : frm h0 h A (A + 84)) (e : ω.1 = (n, S, F, P)) (hs : s < pc P) (hi : i < n) (p : ∀ h', isT h' A ω → frm h0 h' A (A + 84) → K (nI (pst P s i)) h') : (∃ P : Option Value → xHp → Prop, SpecR g_TV_word [.ref A, .int (nI s), .int (nI i)] h P ∧ ∀ (v : Int32) (h' : xHp), P (some (.int v)) h' → K v h') ∨ ZZ := by
  obtain ⟨σ, l, t⟩ := ω
  have e : σ = (n, S, F, P) := e
  subst e
  refine cl_r (sp_TV_word w k) ?_ fr p
  show stWord ((n, S, F, P), l, t) (nI s) (nI i) = (nI (pst P s i), ((n, S, F, P), l, t))
  unfold stWord
  rw [gdS (ix_nI (show s < pc (wP ((n, S, F, P), l, t)) from hs) (by have := k.1.2.2.2.2.1; have : pc P ≤ 8 := this; show pc P ≤ 2147483648; omega)), gdS (ix_nI (show i < wN ((n, S, F, P), l, t) from hi) (by have := k.1.2.1; have : n ≤ 7 := this; show n ≤ 2147483648; omega))]
theorem cl_lock1 {s i : Nat} {ZZ : Prop} {h0 h : xHp} {A n : Nat} {ω : Wv} {S : Nat → Nat} {F : Nat → Nat → Nat} {P : Pv} {K : Int32 → xHp → Prop} (w : isT h A ω) (k : wok ω) (fr : frm h0 h A (A + 84)) (e : ω.1 = (n, S, F, P)) (hs : s < pc P) (hi : i < n) (p : ∀ h' ω', isT h' A ω' → wok ω' → ω'.1 = (n, S, F, plok P s (plk P s ||| 2 ^ i)) → frm h0 h' A (A + 84) → K (nI (plk P s / 2 ^ i % 2)) h') : (∃ P : Option Value → xHp → Prop, SpecR g_TV_lock [.ref A, .int (nI s), .int (nI i), .int (nI 1)] h P ∧ ∀ (v : Int32) (h' : xHp), P (some (.int v)) h' → K v h') ∨ ZZ := by
  obtain ⟨σ, l, t⟩ := ω
  have e : σ = (n, S, F, P) := e
  subst e
  have ho : ∃ ω', stLock ((n, S, F, P), l, t) (nI s) (nI i) (nI 1) = (nI (plk P s / 2 ^ i % 2), ω') ∧ ω'.1 = (n, S, F, plok P s (plk P s ||| 2 ^ i)) := by
    unfold stLock
    rw [gdS (ix_nI (show s < pc (wP ((n, S, F, P), l, t)) from hs) (by have := k.1.2.2.2.2.1; have : pc P ≤ 8 := this; show pc P ≤ 2147483648; omega)), gdS (ix_nI (show i < wN ((n, S, F, P), l, t) from hi) (by have := k.1.2.1; have : n ≤ 7 := this; show n ≤ 2147483648; omega)), if_neg (by decide : ¬ nI 1 = 0)]
    exact ⟨_, rfl, rfl⟩
  obtain ⟨ω2, ho, hs⟩ := ho
  have k2 := wk_lock k (nI s) (nI i) (nI 1)
  rw [ho] at k2
  refine cl_w (sp_TV_lock w k) (by rw [ho]; exact k2) (by rw [ho]) (by rw [ho]; exact hs) fr p
theorem cl_lock0 {s i : Nat} {ZZ : Prop} {h0 h : xHp} {A n : Nat} {ω : Wv} {S : Nat → Nat} {F : Nat → Nat → Nat} {P : Pv} {K : Int32 → xHp → Prop} (w : isT h A ω) (k : wok ω) (fr : frm h0 h A (A + 84)) (e : ω.1 = (n, S, F, P)) (hs : s < pc P) (hi : i < n) (p : ∀ h' ω', isT h' A ω' → wok ω' → ω'.1 = (n, S, F, plok P s (plk P s &&& (2 ^ i ^^^ 4294967295))) → frm h0 h' A (A + 84) → K (nI (plk P s / 2 ^ i % 2)) h') : (∃ P : Option Value → xHp → Prop, SpecR g_TV_lock [.ref A, .int (nI s), .int (nI i), .int (nI 0)] h P ∧ ∀ (v : Int32) (h' : xHp), P (some (.int v)) h' → K v h') ∨ ZZ := by
  obtain ⟨σ, l, t⟩ := ω
  have e : σ = (n, S, F, P) := e
  subst e
  have ho : ∃ ω', stLock ((n, S, F, P), l, t) (nI s) (nI i) (nI 0) = (nI (plk P s / 2 ^ i % 2), ω') ∧ ω'.1 = (n, S, F, plok P s (plk P s &&& (2 ^ i ^^^ 4294967295))) := by
    unfold stLock
    rw [gdS (ix_nI (show s < pc (wP ((n, S, F, P), l, t)) from hs) (by have := k.1.2.2.2.2.1; have : pc P ≤ 8 := this; show pc P ≤ 2147483648; omega)), gdS (ix_nI (show i < wN ((n, S, F, P), l, t) from hi) (by have := k.1.2.1; have : n ≤ 7 := this; show n ≤ 2147483648; omega)), if_pos (by decide : nI 0 = 0)]
    exact ⟨_, rfl, rfl⟩
  obtain ⟨ω2, ho, hs⟩ := ho
  have k2 := wk_lock k (nI s) (nI i) (nI 0)
  rw [ho] at k2
  refine cl_w (sp_TV_lock w k) (by rw [ho]; exact k2) (by rw [ho]) (by rw [ho]; exact hs) fr p
theorem cl_mend {r : Nat} {ZZ : Prop} {h0 h : xHp} {A n : Nat} {ω : Wv} {S : Nat → Nat} {F : Nat → Nat → Nat} {P : Pv} {K : Int32 → xHp → Prop} (w : isT h A ω) (k : wok ω) (fr : frm h0 h A (A + 84)) (e : ω.1 = (n, S, F, P)) (hr : r < 6) (hp0 : pc P ≠ 0) (hc : cst n (F r) P ≠ 0) (p : ∀ h' ω', isT h' A ω' → wok ω' → ω'.1 = (n, S, F, prew P (fro n (F r) P) (F r)) → ω'.2.1 = (ω.1 :: ω.2.1).take 8 → frm h0 h' A (A + 84) → K (cstI n (F r) P) h') : (∃ P : Option Value → xHp → Prop, SpecR g_TV_mend [.ref A, .int (nI r)] h P ∧ ∀ (v : Int32) (h' : xHp), P (some (.int v)) h' → K v h') ∨ ZZ := by
  obtain ⟨σ, l, t⟩ := ω
  have e : σ = (n, S, F, P) := e
  subst e
  have ho : ∃ ω', stMend ((n, S, F, P), l, t) (nI r) = (cstI n (F r) P, ω') ∧ ω'.1 = (n, S, F, prew P (fro n (F r) P) (F r)) ∧ ω'.2.1 = ((n, S, F, P) :: l).take 8 := by
    unfold stMend
    rw [gdS (ix_nI hr (by omega)), if_neg (show ¬ pc (wP ((n, S, F, P), l, t)) = 0 from hp0), if_neg (show ¬ cst (wN ((n, S, F, P), l, t)) (wG ((n, S, F, P), l, t) r) (wP ((n, S, F, P), l, t)) = 0 from hc)]
    exact ⟨_, rfl, rfl, rfl⟩
  obtain ⟨ω2, ho, hs, hl⟩ := ho
  have k2 := wk_mend k (nI r)
  rw [ho] at k2
  refine cl_h (sp_TV_mend w k) (by rw [ho]; exact k2) (by rw [ho]) (by rw [ho]; exact hs) (by rw [ho]; exact hl) fr p
theorem cl_told1  {ZZ : Prop} {h0 h : xHp} {A n : Nat} {ω : Wv} {S : Nat → Nat} {F : Nat → Nat → Nat} {P : Pv} {K : Int32 → xHp → Prop} (w : isT h A ω) (k : wok ω) (fr : frm h0 h A (A + 84)) (e : ω.1 = (n, S, F, P))  (p : ∀ h', isT h' A ω → frm h0 h' A (A + 84) → K (nI (pc P)) h') : (∃ P : Option Value → xHp → Prop, SpecR g_TV_told [.ref A, .int (nI 1)] h P ∧ ∀ (v : Int32) (h' : xHp), P (some (.int v)) h' → K v h') ∨ ZZ := by
  obtain ⟨σ, l, t⟩ := ω
  have e : σ = (n, S, F, P) := e
  subst e
  refine cl_r (sp_TV_told w k) ?_ fr p
  show stTold ((n, S, F, P), l, t) (nI 1) = (nI (pc P), ((n, S, F, P), l, t))
  unfold stTold
  rw [gdS (ix_nI (show 1 < 6 by omega) (by omega))]
  rfl
theorem cl_undo {ZZ : Prop} {h0 h : xHp} {A n : Nat} {ω : Wv} {S : Nat → Nat} {F : Nat → Nat → Nat} {P : Pv} {K : Int32 → xHp → Prop} (w : isT h A ω) (k : wok ω) (fr : frm h0 h A (A + 84)) {σ : Sv} {l : List Sv} (e : ω.2.1 = σ :: l) (p : ∀ h' ω', isT h' A ω' → wok ω' → ω'.1 = σ → frm h0 h' A (A + 84) → K (nI l.length) h') : (∃ P : Option Value → xHp → Prop, SpecR g_TV_undo [.ref A] h P ∧ ∀ (v : Int32) (h' : xHp), P (some (.int v)) h' → K v h') ∨ ZZ := by
  obtain ⟨σ0, l0, t⟩ := ω
  have e : l0 = σ :: l := e
  subst e
  exact cl_w (sp_TV_undo w k) (wk_undo k) rfl rfl fr p
theorem cl_turning {s : Nat} {ZZ : Prop} {h0 h : xHp} {A n : Nat} {ω : Wv} {S : Nat → Nat} {F : Nat → Nat → Nat} {P : Pv} {K : Int32 → xHp → Prop} (w : isT h A ω) (k : wok ω) (fr : frm h0 h A (A + 84)) (e : ω.1 = (n, S, F, P)) (hs : s < pc P) (p : ∀ h', isT h' A ω → frm h0 h' A (A + 84) → K (tbI n P s) h') : (∃ P : Option Value → xHp → Prop, SpecR g_TV_turning [.ref A, .int (nI s)] h P ∧ ∀ (v : Int32) (h' : xHp), P (some (.int v)) h' → K v h') ∨ ZZ := by
  obtain ⟨σ, l, t⟩ := ω
  have e : σ = (n, S, F, P) := e
  subst e
  refine cl_r (sp_TV_turning w k) ?_ fr p
  show stTurning ((n, S, F, P), l, t) (nI s) = (tbI n P s, ((n, S, F, P), l, t))
  unfold stTurning
  rw [gdS (ix_nI (show s < pc (wP ((n, S, F, P), l, t)) from hs) (by have := k.1.2.2.2.2.1; have : pc P ≤ 8 := this; show pc P ≤ 2147483648; omega))]
theorem cl_drop  {ZZ : Prop} {h0 h : xHp} {A n : Nat} {ω : Wv} {S : Nat → Nat} {F : Nat → Nat → Nat} {P : Pv} {K : Int32 → xHp → Prop} (w : isT h A ω) (k : wok ω) (fr : frm h0 h A (A + 84)) (e : ω.1 = (n, S, F, P)) (hp0 : pc P ≠ 0) (p : ∀ h' ω', isT h' A ω' → wok ω' → ω'.1 = (n, S, F, (pc P - 1, P.2)) → frm h0 h' A (A + 84) → K (nI (pc P - 1)) h') : (∃ P : Option Value → xHp → Prop, SpecR g_TV_drop [.ref A] h P ∧ ∀ (v : Int32) (h' : xHp), P (some (.int v)) h' → K v h') ∨ ZZ := by
  obtain ⟨σ, l, t⟩ := ω
  have e : σ = (n, S, F, P) := e
  subst e
  have ho : ∃ ω', stDrop ((n, S, F, P), l, t) = (nI (pc P - 1), ω') ∧ ω'.1 = (n, S, F, (pc P - 1, P.2)) := by
    unfold stDrop
    rw [if_neg (show ¬ pc (wP ((n, S, F, P), l, t)) = 0 from hp0)]
    exact ⟨_, rfl, rfl⟩
  obtain ⟨ω2, ho, hs⟩ := ho
  have k2 := wk_drop k
  rw [ho] at k2
  refine cl_w (sp_TV_drop w k) (by rw [ho]; exact k2) (by rw [ho]) (by rw [ho]; exact hs) fr p
theorem cl_unrank' {xx : Int32} {r x : Nat} {ZZ : Prop} {h0 h : xHp} {A n : Nat} {ω : Wv} {S : Nat → Nat} {F : Nat → Nat → Nat} {P : Pv} {K : Int32 → xHp → Prop} (w : isT h A ω) (k : wok ω) (fr : frm h0 h A (A + 84)) (e : ω.1 = (n, S, F, P)) (hr : r < 6) (hx : x < fct n) (ex : xx = nI x) (p : ∀ h' ω', isT h' A ω' → wok ω' → ω'.1 = (n, S, upF F r (unr n x), P) → frm h0 h' A (A + 84) → K (nI (ord n (unr n x))) h') : (∃ P : Option Value → xHp → Prop, SpecR g_TV_unrank [.ref A, .int (nI r), .int xx] h P ∧ ∀ (v : Int32) (h' : xHp), P (some (.int v)) h' → K v h') ∨ ZZ := by
  subst ex
  exact cl_unrank w k fr e hr hx p
theorem cl_put' {xs xi xx : Int32} {s i x : Nat} {ZZ : Prop} {h0 h : xHp} {A n : Nat} {ω : Wv} {S : Nat → Nat} {F : Nat → Nat → Nat} {P : Pv} {K : Int32 → xHp → Prop} (w : isT h A ω) (k : wok ω) (fr : frm h0 h A (A + 84)) (e : ω.1 = (n, S, F, P)) (hs : s < pc P) (hi : i < n) (hx : x < n) (es : xs = nI s) (ei : xi = nI i) (ex : xx = nI x) (p : ∀ h' ω', isT h' A ω' → wok ω' → ω'.1 = (n, S, F, pput P s i x) → frm h0 h' A (A + 84) → K (nI (pst P s i)) h') : (∃ P : Option Value → xHp → Prop, SpecR g_TV_put [.ref A, .int xs, .int xi, .int xx] h P ∧ ∀ (v : Int32) (h' : xHp), P (some (.int v)) h' → K v h') ∨ ZZ := by
  subst es ei ex
  exact cl_put w k fr e hs hi hx p
theorem cl_word' {xs xi : Int32} {s i : Nat} {ZZ : Prop} {h0 h : xHp} {A n : Nat} {ω : Wv} {S : Nat → Nat} {F : Nat → Nat → Nat} {P : Pv} {K : Int32 → xHp → Prop} (w : isT h A ω) (k : wok ω) (fr : frm h0 h A (A + 84)) (e : ω.1 = (n, S, F, P)) (hs : s < pc P) (hi : i < n) (es : xs = nI s) (ei : xi = nI i) (p : ∀ h', isT h' A ω → frm h0 h' A (A + 84) → K (nI (pst P s i)) h') : (∃ P : Option Value → xHp → Prop, SpecR g_TV_word [.ref A, .int xs, .int xi] h P ∧ ∀ (v : Int32) (h' : xHp), P (some (.int v)) h' → K v h') ∨ ZZ := by
  subst es ei
  exact cl_word w k fr e hs hi p
theorem cl_lock1' {xs xi : Int32} {s i : Nat} {ZZ : Prop} {h0 h : xHp} {A n : Nat} {ω : Wv} {S : Nat → Nat} {F : Nat → Nat → Nat} {P : Pv} {K : Int32 → xHp → Prop} (w : isT h A ω) (k : wok ω) (fr : frm h0 h A (A + 84)) (e : ω.1 = (n, S, F, P)) (hs : s < pc P) (hi : i < n) (es : xs = nI s) (ei : xi = nI i) (p : ∀ h' ω', isT h' A ω' → wok ω' → ω'.1 = (n, S, F, plok P s (plk P s ||| 2 ^ i)) → frm h0 h' A (A + 84) → K (nI (plk P s / 2 ^ i % 2)) h') : (∃ P : Option Value → xHp → Prop, SpecR g_TV_lock [.ref A, .int xs, .int xi, .int (nI 1)] h P ∧ ∀ (v : Int32) (h' : xHp), P (some (.int v)) h' → K v h') ∨ ZZ := by
  subst es ei
  exact cl_lock1 w k fr e hs hi p
theorem cl_lock0' {xs xi : Int32} {s i : Nat} {ZZ : Prop} {h0 h : xHp} {A n : Nat} {ω : Wv} {S : Nat → Nat} {F : Nat → Nat → Nat} {P : Pv} {K : Int32 → xHp → Prop} (w : isT h A ω) (k : wok ω) (fr : frm h0 h A (A + 84)) (e : ω.1 = (n, S, F, P)) (hs : s < pc P) (hi : i < n) (es : xs = nI s) (ei : xi = nI i) (p : ∀ h' ω', isT h' A ω' → wok ω' → ω'.1 = (n, S, F, plok P s (plk P s &&& (2 ^ i ^^^ 4294967295))) → frm h0 h' A (A + 84) → K (nI (plk P s / 2 ^ i % 2)) h') : (∃ P : Option Value → xHp → Prop, SpecR g_TV_lock [.ref A, .int xs, .int xi, .int (nI 0)] h P ∧ ∀ (v : Int32) (h' : xHp), P (some (.int v)) h' → K v h') ∨ ZZ := by
  subst es ei
  exact cl_lock0 w k fr e hs hi p
theorem cl_turning' {xs : Int32} {s : Nat} {ZZ : Prop} {h0 h : xHp} {A n : Nat} {ω : Wv} {S : Nat → Nat} {F : Nat → Nat → Nat} {P : Pv} {K : Int32 → xHp → Prop} (w : isT h A ω) (k : wok ω) (fr : frm h0 h A (A + 84)) (e : ω.1 = (n, S, F, P)) (hs : s < pc P) (es : xs = nI s) (p : ∀ h', isT h' A ω → frm h0 h' A (A + 84) → K (tbI n P s) h') : (∃ P : Option Value → xHp → Prop, SpecR g_TV_turning [.ref A, .int xs] h P ∧ ∀ (v : Int32) (h' : xHp), P (some (.int v)) h' → K v h') ∨ ZZ := by
  subst es
  exact cl_turning w k fr e hs p
