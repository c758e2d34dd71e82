/-! THE REFERENCE'S CALLS: schemes, couples, the whole state -/
theorem sp_Mo_schemes {h : xHp} {B : Nat} {ω : Wv} {s r : Int32} (w : isM h B ω) (k : wok ω) : SpecR g_Mo_schemes [.ref B, .int s, .int r] h (pM h B (stSchemes ω s r)) := by
  obtain ⟨F, tx, w⟩ := w
  obtain ⟨fs, hrc⟩ := bM_rc w.b
  refine SpecR.of (by decide +kernel) (Nat.le_of_ble_eq_true rfl) (fun c hc => by cases hc; exact ⟨_, _, _, rfl, hrc⟩) (fun v h' z => ⟨⟨_, z.1⟩, z.2.2.1, z.2.2.2.1⟩) (fun Q hQ => ?_)
  generalize hO : stSchemes ω s r = o at hQ
  unfold stSchemes at hO
  have bad : ∀ c, (c, ω) = o → Q (some (.int c)) h := fun c e => by subst e; exact hQ _ _ ⟨rfl, ⟨F, tx, w⟩, frm_rf⟩
  have fin : ∀ (v : Int32) (ω' : Wv) (h' : xHp) (F' tx' : Nat → Int32), (v, ω') = o → isMF h' B ω' F' tx' → frm h h' B (B + 14) → Q (some (.int v)) h' := fun v ω' h' F' tx' e w' f => by subst e; exact hQ _ _ ⟨rfl, ⟨F', tx', w'⟩, f⟩
  have hn1 : 2 ≤ wN ω := k.1.1
  have hn : wN ω ≤ 7 := k.1.2.1
  have hS : ∀ i, i < wN ω → sS ω.1 i < 4 := k.1.2.2.1
  have hG : ∀ r, r < 6 → PM (wN ω) (wG ω r) := k.1.2.2.2.1
  have hP : pok (wN ω) (wP ω) := k.1.2.2.2.2
  refine xgoal [(46, [0, 3, 4, 5])] 100 ok_Mo_schemes ?_
  have hc8 := hP.1
  have p0 := pg0.mp w.2.2.1.1
  refine xci (sp_Mo_isStanza (p := pc (wP ω)) s w.b p0.2.2.2.1 hc8) ?_
  refine gdX (fun z => ?_) (fun a ha e hlt => ?_)
  · rw [gdN z] at hO; exact bad _ hO
  subst e
  rw [gdS ha] at hO
  refine xci (sp_Mo_isRegister r h) ?_
  refine gdX (fun z => ?_) (fun q hq e hq6 => ?_)
  · rw [gdN z] at hO; exact bad _ hO
  subst e
  rw [gdS hq] at hO
  have hf := hG q hq6
  obtain ⟨r1, r2⟩ := ord_le (wN ω) (wG ω q)
  have hps := hP.2.1 a hlt
  obtain ⟨l0, m0, s0, o0⟩ := w.1
  refine xgf o0 rfl ?_
  refine xtakes w hn hq6 (c := 3) (by omega) (by omega) (fun h1 w1 rw1 fr1 => ?_)
  refine xrv (sp_Mo_takesVerse w1 k hlt) ?_
  rintro h2 ⟨-, w2, v2, fr2⟩
  have rw2 := rw1.fr fr2 (by omega)
  obtain ⟨l2, m2, s2, o2⟩ := w2.1
  refine xgf o2 rfl ?_
  refine xci (sp_Mo_orderOf w2.b hn rw2 hf) ?_
  obtain ⟨g3, g31, g32⟩ := id rw2
  obtain ⟨se0, se01⟩ := w2.2.2.2.2 13 (by omega) (by omega)
  have fr12 : frm h h2 B (B + 14) := frm_tr (frm_wd fr1 (show B ≤ B + 3 by omega) (show B + 3 + 1 ≤ B + 14 by omega)) fr2 (by omega) (by omega)
  generalize hls : dls (snd_ ω a) (wG ω q) (wN ω) = ls at hO
  have hl0 : ls 0 = [] := by rw [← hls]; rfl
  have hlS : ∀ t, ls (t + 1) = if patA (fun i => snd_ ω a (itr (wG ω q) t i)) (wN ω) ∈ ls t then ls t else ls t ++ [patA (fun i => snd_ ω a (itr (wG ω q) t i)) (wN ω)] := fun t => by rw [← hls]; rfl
  have hlL : ∀ t, (ls t).length ≤ t := fun t => by rw [← hls]; exact dls_le _ _ _ t
  have hlB : ∀ t, ∀ x, x ∈ ls t → x < 823543 := fun t x hx => by rw [← hls] at hx; exact dls_lt hn t x hx
  have key := up_loop (P := fun t => ∀ (k3 : xHp) (se : Nat → Int32), frm h2 k3 (B + 11) (B + 14) → isMF k3 B ω F tx → isRw k3 (B + 11) (wN ω) (fun i => pst (wP ω) a (itr (wG ω q) t i)) → xat k3 (B + 13) (xia 12 se) → (∀ j, j < (ls t).length → se j = nI ((ls t).getD j 0)) → xAt (h.1, h.2.1) g_Mo_schemes Q 46 [(0, .ref B), (3, .int (nI (ord (wN ω) (wG ω q)))), (4, .int (nI (ls t).length)), (5, .int (nI t))] [] k3) (ord (wN ω) (wG ω q)) ?_ (fun t ht ih => ?_) 0 (Nat.zero_le _)
  · have key := key h2 se0 frm_rf w2 v2 se01 (fun j hj => by rw [hl0] at hj; exact absurd hj (Nat.not_lt_zero j))
    rw [hl0] at key
    exact key
  · intro k3 se fr3 w3 v3 e1 e2
    refine xgoal [(46, [0, 3, 4, 5])] 100 ok_Mo_schemes ?_
    exact pk_le (ord (wN ω) (wG ω q)) (ord (wN ω) (wG ω q)) (fun _ => fin _ _ _ _ tx hO w3 (frm_tr fr12 fr3 (by omega) (by omega))) (fun z => absurd z (by omega))
  · intro k3 se fr3 w3 v3 e1 e2
    have hgi : ∀ i, i < wN ω → pst (wP ω) a (itr (wG ω q) t i) < wN ω := fun i hi => hps _ (itr_lt hf.1 t i hi)
    have hlT := hlL t
    have hlE := hlS t
    have hX : patA (fun i => sS ω.1 (pst (wP ω) a (itr (wG ω q) t i))) (wN ω) = patA (fun i => snd_ ω a (itr (wG ω q) t i)) (wN ω) := rfl
    have spx := sp_Mo_schemeOfVerse w3 k v3 hgi
    rw [hX] at spx
    have hXb : patA (fun i => snd_ ω a (itr (wG ω q) t i)) (wN ω) < 823543 := patA_lt2 hn
    generalize patA (fun i => snd_ ω a (itr (wG ω q) t i)) (wN ω) = X at spx hlE hXb
    have hB := hlB t
    -- the turned verse, behind the noting
    have at115 : ∀ (k4 : xHp) (se4 : Nat → Int32), frm h2 k4 (B + 11) (B + 14) → isMF k4 B ω F tx → isRw k4 (B + 11) (wN ω) (fun i => pst (wP ω) a (itr (wG ω q) t i)) → xat k4 (B + 13) (xia 12 se4) → (∀ j, j < (ls (t + 1)).length → se4 j = nI ((ls (t + 1)).getD j 0)) → xAt (h.1, h.2.1) g_Mo_schemes Q 115 [(0, .ref B), (3, .int (nI (ord (wN ω) (wG ω q)))), (4, .int (nI (ls (t + 1)).length)), (5, .int (nI t)), (8, .int (nI 0))] [] k4 := by
      intro k4 se4 fr4 w4 v4 e41 e42
      obtain ⟨y4, y41, y42⟩ := v4
      obtain ⟨z0, z01⟩ := w4.2.2.2.2 12 (by omega) (by omega)
      refine up_loop (P := fun x => ∀ (k5 : xHp) (z : Nat → Int32), frm k4 k5 (B + 12) (B + 13) → xat k5 (B + 12) (xia 7 z) → (∀ j, j < x → z j = nI (pst (wP ω) a (itr (wG ω q) (t + 1) j))) → xAt (h.1, h.2.1) g_Mo_schemes Q 115 [(0, .ref B), (3, .int (nI (ord (wN ω) (wG ω q)))), (4, .int (nI (ls (t + 1)).length)), (5, .int (nI t)), (8, .int (nI x))] [] k5) (wN ω) ?_ (fun x hx ih2 => ?_) 0 (Nat.zero_le _) k4 z0 frm_rf z01 (fun j hj => absurd hj (Nat.not_lt_zero j))
      · intro k5 z fr5 z1 z2
        have w5 := w4.sc (c := 12) fr5 (by omega) ⟨z, z1⟩
        have y51 := xat_fr y41 fr5 (by omega)
        have e51 := xat_fr e41 fr5 (by omega)
        have fr25 := frm_tr fr4 fr5 (by omega) (by omega)
        refine xgoal [(115, [0, 3, 4, 5, 8]), (152, [0, 3, 4, 5, 8])] 100 ok_Mo_schemes ?_
        refine xci (sp_Mo_size w5.b) ?_
        refine pk_le (wN ω) (wN ω) (fun _ => ?_) (fun z => absurd z (by omega))
        refine up_loop (P := fun x => ∀ (k6 : xHp) (y : Nat → Int32), frm k5 k6 (B + 11) (B + 12) → xat k6 (B + 11) (xia 7 y) → (∀ j, j < x → y j = nI (pst (wP ω) a (itr (wG ω q) (t + 1) j))) → xAt (h.1, h.2.1) g_Mo_schemes Q 152 [(0, .ref B), (3, .int (nI (ord (wN ω) (wG ω q)))), (4, .int (nI (ls (t + 1)).length)), (5, .int (nI t)), (8, .int (nI x))] [] k6) (wN ω) ?_ (fun x hx ih3 => ?_) 0 (Nat.zero_le _) k5 y4 frm_rf y51 (fun j hj => absurd hj (Nat.not_lt_zero j))
        · intro k6 y fr6 y1 y2
          have w6 := w5.sc (c := 11) fr6 (by omega) ⟨y, y1⟩
          have ih := ih k6 se4 (frm_tr fr25 fr6 (by omega) (by omega)) w6 ⟨y, y1, y2⟩ (xat_fr e51 fr6 (by omega)) e42
          rw [← nI_1 t] at ih
          refine xgoal [(46, [0, 3, 4, 5]), (152, [0, 3, 4, 5, 8])] 100 ok_Mo_schemes ?_
          refine xci (sp_Mo_size w6.b) ?_
          exact pk_le (wN ω) (wN ω) (fun _ => ih) (fun z => absurd z (by omega))
        · intro k6 y fr6 y1 y2
          have w6 := w5.sc (c := 11) fr6 (by omega) ⟨y, y1⟩
          obtain ⟨l6, m6, s6, o6⟩ := w6.1
          refine xgoal [(152, [0, 3, 4, 5, 8])] 100 ok_Mo_schemes ?_
          refine xci (sp_Mo_size w6.b) ?_
          refine pk_le (wN ω) x (fun z => absurd z (by omega)) (fun _ => ?_)
          refine xgf o6 rfl ?_
          refine xgf o6 rfl ?_
          refine xal (xat_fr z1 fr6 (by omega)) rfl (show x < 7 by omega) (by decide) ?_
          refine xal y1 rfl (show x < 7 by omega) (by decide) ?_
          have ih3 := ih3 (xset k6 (B + 11) (xia 7 (upd y x (z x)))) _ (frm_set fr6 (by omega) (by omega)) (xat_sf y1.1) (fun j hj => by
            unfold upd
            by_cases e : j = x
            · rw [if_pos e, e]; exact z2 x hx
            · rw [if_neg e]; exact y2 j (by omega))
          rw [← nI_1 x] at ih3
          exact ih3
      · intro k5 z fr5 z1 z2
        have w5 := w4.sc (c := 12) fr5 (by omega) ⟨z, z1⟩
        obtain ⟨l5, m5, s5, o5⟩ := w5.1
        have hfx := hf.1 x hx
        refine xgoal [(115, [0, 3, 4, 5, 8])] 100 ok_Mo_schemes ?_
        refine xci (sp_Mo_size w5.b) ?_
        refine pk_le (wN ω) x (fun z => absurd z (by omega)) (fun _ => ?_)
        refine xgf o5 rfl ?_
        refine xgf o5 rfl ?_
        refine xgf o5 rfl ?_
        refine xal (xat_fr g31 (frm_tr fr4 fr5 (show B + 11 ≤ B + 12 by omega) (show B + 13 ≤ B + 14 by omega)) (by omega)) rfl (show x < 7 by omega) (by decide) ?_
        refine xal (xat_fr y41 fr5 (by omega)) (g32 x hx) (show wG ω q x < 7 by omega) (by decide) ?_
        refine xal z1 rfl (show x < 7 by omega) (by decide) ?_
        have hv : y4 (wG ω q x) = nI (pst (wP ω) a (itr (wG ω q) (t + 1) x)) := by
          rw [y42 _ hfx, itr_add (wG ω q) t 1 x]; rfl
        have ih2 := ih2 (xset k5 (B + 12) (xia 7 (upd z x (y4 (wG ω q x))))) _ (frm_set fr5 (by omega) (by omega)) (xat_sf z1.1) (fun j hj => by
          unfold upd
          by_cases e : j = x
          · rw [if_pos e, hv, e]
          · rw [if_neg e]; exact z2 j (by omega))
        rw [← nI_1 x] at ih2
        exact ih2
    obtain ⟨l3, m3, s3, o3⟩ := w3.1
    refine xgoal [(46, [0, 3, 4, 5]), (61, [0, 3, 4, 5, 6, 7])] 100 ok_Mo_schemes ?_
    refine pk_le (ord (wN ω) (wG ω q)) t (fun z => absurd z (by omega)) (fun _ => ?_)
    refine xci spx ?_
    -- noting at a place
    have note : ∀ x, x ≤ (ls t).length → (x < (ls t).length → se x = nI X ∧ X ∈ ls t) → (x = (ls t).length → ¬ X ∈ ls t) → ∀ v, v = nI (ls (t + 1)).length → xAt (h.1, h.2.1) g_Mo_schemes Q 115 [(0, .ref B), (3, .int (nI (ord (wN ω) (wG ω q)))), (4, .int v), (5, .int (nI t)), (8, .int (nI 0))] [] (xset k3 (B + 13) (xia 12 (upd se x (nI X)))) := by
      intro x hx hx1 hx2 v hv
      have fr6 : frm k3 (xset k3 (B + 13) (xia 12 (upd se x (nI X)))) (B + 13) (B + 13 + 1) := frm_set frm_rf (by omega) (by omega)
      have w6 := w3.sc (c := 13) fr6 (by omega) ⟨_, xat_sf e1.1⟩
      rw [hv]
      refine at115 _ (upd se x (nI X)) (frm_tr fr3 fr6 (by omega) (by omega)) w6 (v3.fr fr6 (by omega)) (xat_sf e1.1) (fun j hj => ?_)
      by_cases c : x < (ls t).length
      · obtain ⟨c1, c2⟩ := hx1 c
        rw [hlE, if_pos c2] at hj ⊢
        unfold upd
        by_cases e : j = x
        · rw [if_pos e, e, ← c1]; exact e2 x c
        · rw [if_neg e]; exact e2 j hj
      · have hxe : x = (ls t).length := by omega
        have c2 := hx2 hxe
        rw [hlE, if_neg c2] at hj ⊢
        rw [List.length_append, List.length_singleton] at hj
        unfold upd
        by_cases e : j = x
        · rw [if_pos e, e, hxe, List.getD_eq_getElem?_getD, List.getElem?_append_right (Nat.le_refl _), Nat.sub_self]; rfl
        · rw [if_neg e, e2 j (by omega), List.getD_eq_getElem?_getD, List.getD_eq_getElem?_getD, List.getElem?_append_left (by omega)]
    have len : ∀ x, x ≤ (ls t).length → (x < (ls t).length → X ∈ ls t) → (x = (ls t).length → ¬ X ∈ ls t) → nI (ls (t + 1)).length = (if x = (ls t).length then nI (ls t).length + nI 1 else nI (ls t).length + nI 0) := by
      intro x hx h1 h2
      by_cases c : x = (ls t).length
      · rw [if_pos c, hlE, if_neg (h2 c), List.length_append, List.length_singleton, nI_add]
      · rw [if_neg c, hlE, if_pos (h1 (by omega)), nI_add]; rfl
    refine up_loop (P := fun x => (∀ j, j < x → (ls t).getD j 0 ≠ X) → xAt (h.1, h.2.1) g_Mo_schemes Q 61 [(0, .ref B), (3, .int (nI (ord (wN ω) (wG ω q)))), (4, .int (nI (ls t).length)), (5, .int (nI t)), (6, .int (nI X)), (7, .int (nI x))] [] k3) (ls t).length ?_ (fun x hx ih2 => ?_) 0 (Nat.zero_le _) (fun j hj => absurd hj (Nat.not_lt_zero j))
    · intro hno
      have hnm : ¬ X ∈ ls t := fun hm => by
        obtain ⟨j, hj, e⟩ := List.mem_iff_getElem.mp hm
        refine hno j hj ?_
        rw [List.getD_eq_getElem?_getD, List.getElem?_eq_getElem hj, e]; rfl
      have hlen := len (ls t).length (Nat.le_refl _) (fun z => absurd z (Nat.lt_irrefl _)) (fun _ => hnm)
      rw [if_pos rfl] at hlen
      refine xgoal [(61, [0, 3, 4, 5, 6, 7]), (115, [0, 3, 4, 5, 8])] 100 ok_Mo_schemes ?_
      refine pk_le (ls t).length (ls t).length (fun _ => ?_) (fun z => absurd z (by omega))
      refine xgf o3 rfl ?_
      refine xal e1 rfl (show (ls t).length < 12 by omega) (by decide) ?_
      refine pk_eq (ls t).length (ls t).length (fun _ => ?_) (fun z => absurd rfl z)
      exact note (ls t).length (Nat.le_refl _) (fun z => absurd z (Nat.lt_irrefl _)) (fun _ => hnm) _ hlen.symm
    · intro hno
      have hv := e2 x hx
      have hgb : (ls t).getD x 0 < 823543 := by
        rw [List.getD_eq_getElem?_getD, List.getElem?_eq_getElem hx]
        exact hB _ (List.getElem_mem hx)
      refine xgoal [(61, [0, 3, 4, 5, 6, 7]), (115, [0, 3, 4, 5, 8])] 100 ok_Mo_schemes ?_
      refine pk_le (ls t).length x (fun z => absurd z (by omega)) (fun _ => ?_)
      refine xgf o3 rfl ?_
      refine xal e1 rfl (show x < 12 by omega) (by decide) ?_
      refine pk_eq ((ls t).getD x 0) X (fun c => ?_) (fun c => ?_) hv rfl
      · have hm : X ∈ ls t := by
          rw [← c, List.getD_eq_getElem?_getD, List.getElem?_eq_getElem hx]
          exact List.getElem_mem hx
        have hlen := len x (by omega) (fun _ => hm) (fun z => absurd z (by omega))
        rw [if_neg (by omega)] at hlen
        refine xgf o3 rfl ?_
        refine xal e1 rfl (show x < 12 by omega) (by decide) ?_
        refine pk_eq x (ls t).length (fun z => absurd z (by omega)) (fun _ => ?_)
        exact note x (by omega) (fun _ => ⟨by rw [hv, c], hm⟩) (fun z => absurd z (by omega)) _ hlen.symm
      · have ih2 := ih2 (fun j hj => by
          by_cases e : j = x
          · rw [e]; exact c
          · exact hno j (by omega))
        rw [← nI_1 x] at ih2
        exact ih2
theorem sp_Mo_coupled {h : xHp} {B : Nat} {ω : Wv} {s : Int32} (w : isM h B ω) (k : wok ω) : SpecR g_Mo_coupled [.ref B, .int s] h (pM h B (stCoupled ω s)) := by
  obtain ⟨F, tx, w⟩ := w
  obtain ⟨fs, hrc⟩ := bM_rc w.b
  refine SpecR.of (by decide +kernel) (Nat.le_of_ble_eq_true rfl) (fun c hc => by cases hc; exact ⟨_, _, _, rfl, hrc⟩) (fun v h' z => ⟨⟨_, z.1⟩, z.2.2.1, z.2.2.2.1⟩) (fun Q hQ => ?_)
  generalize hO : stCoupled ω s = o at hQ
  unfold stCoupled at hO
  have bad : ∀ c, (c, ω) = o → Q (some (.int c)) h := fun c e => by subst e; exact hQ _ _ ⟨rfl, ⟨F, tx, w⟩, frm_rf⟩
  have fin : ∀ (v : Int32) (ω' : Wv) (h' : xHp) (F' tx' : Nat → Int32), (v, ω') = o → isMF h' B ω' F' tx' → frm h h' B (B + 14) → Q (some (.int v)) h' := fun v ω' h' F' tx' e w' f => by subst e; exact hQ _ _ ⟨rfl, ⟨F', tx', w'⟩, f⟩
  have hn1 : 2 ≤ wN ω := k.1.1
  have hn : wN ω ≤ 7 := k.1.2.1
  have hS : ∀ i, i < wN ω → sS ω.1 i < 4 := k.1.2.2.1
  have hG : ∀ r, r < 6 → PM (wN ω) (wG ω r) := k.1.2.2.2.1
  have hP : pok (wN ω) (wP ω) := k.1.2.2.2.2
  refine xgoal [(23, [0, 2, 3, 4])] 100 ok_Mo_coupled ?_
  have hc8 := hP.1
  have h5 := fct_le hn
  have h6 := fct_pos (wN ω)
  have p0 := pg0.mp w.2.2.1.1
  refine xci (sp_Mo_isStanza (p := pc (wP ω)) s w.b p0.2.2.2.1 hc8) ?_
  refine gdX (fun z => ?_) (fun a ha e hlt => ?_)
  · rw [gdN z] at hO; exact bad _ hO
  subst e
  rw [gdS ha] at hO
  have hps := hP.2.1 a hlt
  refine xrv (sp_Mo_takesVerse w k hlt) ?_
  rintro h1 ⟨-, w1, v1, fr1⟩
  have hz4 : ∀ i, i < wN ω → snd_ ω a i < 4 := fun i hi => hS _ (hps i hi)
  generalize hz : snd_ ω a = z at hO hz4
  have hnb : ∀ x, nbr (wN ω) (fun i => z (unr (wN ω) x i)) < 8 := fun x => Nat.lt_of_le_of_lt (ct_le _ (wN ω - 1)) (by omega)
  have body : ∀ (x : Nat) (b2 b3 : Int32), x < fct (wN ω) → ∀ k2, frm h k2 B (B + 14) → isMF k2 B ω F tx → isRw k2 (B + 11) (wN ω) (pst (wP ω) a) → (nI (nbr (wN ω) (fun i => z (unr (wN ω) x i))) ≤ b3 → ∀ k3, frm h k3 B (B + 14) → isMF k3 B ω F tx → isRw k3 (B + 11) (wN ω) (pst (wP ω) a) → xAt (h.1, h.2.1) g_Mo_coupled Q 23 [(0, .ref B), (2, .int b2), (3, .int b3), (4, .int (nI x + 1))] [] k3) → (¬ nI (nbr (wN ω) (fun i => z (unr (wN ω) x i))) ≤ b3 → ∀ k3, frm h k3 B (B + 14) → isMF k3 B ω F tx → isRw k3 (B + 11) (wN ω) (pst (wP ω) a) → xAt (h.1, h.2.1) g_Mo_coupled Q 23 [(0, .ref B), (2, .int (nI x)), (3, .int (nI (nbr (wN ω) (fun i => z (unr (wN ω) x i))))), (4, .int (nI x + 1))] [] k3) → xAt (h.1, h.2.1) g_Mo_coupled Q 23 [(0, .ref B), (2, .int b2), (3, .int b3), (4, .int (nI x))] [] k2 := by
    intro x b2 b3 hx k2 fr2 w2 v2 yes no
    obtain ⟨l2, m2, s2, o2⟩ := w2.1
    have pm := unr_PM (wN ω) x
    refine xgoal [(23, [0, 2, 3, 4]), (48, [0, 2, 3, 4, 5, 6])] 100 ok_Mo_coupled ?_
    refine xci (sp_Mo_factorial w2.b hn1 hn) ?_
    refine pk_le (fct (wN ω)) x (fun z => absurd z (by omega)) (fun _ => ?_)
    refine xgf o2 rfl ?_
    refine xunr w2 k (x := x) (by omega) (c := 3) (by omega) (by omega) (fun k3 w3 r3 fr3 => ?_)
    have fr23 : frm h k3 B (B + 14) := frm_tr fr2 fr3 (by omega) (by omega)
    have v3 := v2.fr fr3 (by omega)
    obtain ⟨g3, g31, g32⟩ := id r3
    have g32 : ∀ i, i < wN ω → g3 i = nI (unr (wN ω) x i) := g32
    obtain ⟨l3, m3, s3, o3⟩ := w3.1
    have hsn : ∀ i, i < wN ω → Spec g_Mo_soundAt [.ref B, .int (g3 i)] k3 (some (.int (nI (z (unr (wN ω) x i))))) k3 := fun i hi => by
      have sp := sp_Mo_soundAt (i := unr (wN ω) x i) w3 hn v3 (pm.1 i hi) (hps _ (pm.1 i hi))
      rw [← g32 i hi] at sp
      rw [← hz]
      exact sp
    generalize hw : (fun i => z (unr (wN ω) x i)) = y at yes no
    have hy : ∀ i, y i = z (unr (wN ω) x i) := fun i => by rw [← hw]
    refine up_loop (P := fun i => xAt (h.1, h.2.1) g_Mo_coupled Q 48 [(0, .ref B), (2, .int b2), (3, .int b3), (4, .int (nI x)), (5, .int (nI (ct (fun i => decide (y i = y (i + 1))) i))), (6, .int (nI i))] [] k3) (wN ω - 1) ?_ (fun i hi ih => ?_) 0 (Nat.zero_le _)
    · refine xgoal [(23, [0, 2, 3, 4]), (48, [0, 2, 3, 4, 5, 6])] 100 ok_Mo_coupled ?_
      refine xci (sp_Mo_size w3.b) ?_
      refine pk_le (wN ω) (wN ω - 1 + 1) (fun _ => ?_) (fun z => absurd z (by omega)) rfl (nI_add _ 1)
      refine And.intro (fun c => And.intro (fun _ => ?_) (fun d => absurd c d)) (fun c => And.intro (fun d => absurd d c) (fun _ => ?_))
      · exact yes c k3 fr23 w3 v3
      · exact no c k3 fr23 w3 v3
    · have b1 := hz4 _ (pm.1 i (by omega))
      have b2' := hz4 _ (pm.1 (i + 1) (by omega))
      refine xgoal [(48, [0, 2, 3, 4, 5, 6])] 100 ok_Mo_coupled ?_
      refine xci (sp_Mo_size w3.b) ?_
      refine pk_le (wN ω) (i + 1) (fun z => absurd z (by omega)) (fun _ => ?_) rfl (nI_add _ 1)
      refine xgf o3 rfl ?_
      refine xal g31 rfl (show i < 7 by omega) (by decide) ?_
      refine xci (hsn i (by omega)) ?_
      refine xgf o3 rfl ?_
      refine xal g31 (nI_add i 1) (show i + 1 < 7 by omega) (by decide) ?_
      refine xci (hsn (i + 1) (by omega)) ?_
      unfold ct at ih
      rw [hy i, hy (i + 1)] at ih
      refine pk_eq (z (unr (wN ω) x i)) (z (unr (wN ω) x (i + 1))) (fun c => ?_) (fun c => ?_)
      · rw [if_pos (decide_eq_true c), ← nI_add, ← nI_1 i] at ih
        exact ih
      · rw [if_neg (fun d => c (of_decide_eq_true d)), ← nI_add, ← nI_1 i] at ih
        exact ih
  have key := up_loop (P := fun x => 1 ≤ x → ∀ k2, frm h k2 B (B + 14) → isMF k2 B ω F tx → isRw k2 (B + 11) (wN ω) (pst (wP ω) a) → xAt (h.1, h.2.1) g_Mo_coupled Q 23 [(0, .ref B), (2, .int (nI (mnb (wN ω) z (x - 1)))), (3, .int (nI (nbr (wN ω) (fun i => z (unr (wN ω) (mnb (wN ω) z (x - 1)) i))))), (4, .int (nI x))] [] k2) (fct (wN ω)) ?_ (fun x hx ih => ?_) 1 (by omega) (Nat.le_refl _)
  · refine body 0 (-9) (-1) h6 h1 (frm_wd fr1 (by omega) (by omega)) w1 v1 (fun c => absurd c ?_) (fun _ k3 fr3 w3 v3 => ?_)
    · have := hnb 0
      rw [Int32.le_iff_toInt_le, nI_toInt (by omega)]
      have e : (-1 : Int32).toInt = -1 := by decide
      rw [e]; omega
    · have key := key k3 fr3 w3 v3
      rw [← nI_1 0] at key
      exact key
  · intro _ k2 fr2 w2 v2
    refine xgoal [] 100 ok_Mo_coupled ?_
    refine xci (sp_Mo_factorial w2.b hn1 hn) ?_
    exact pk_le (fct (wN ω)) (fct (wN ω)) (fun _ => fin _ _ _ _ tx hO w2 fr2) (fun z => absurd z (by omega))
  · intro hx1 k2 fr2 w2 v2
    have ih := ih (by omega)
    rw [show x + 1 - 1 = (x - 1) + 1 by omega] at ih
    have e : mnb (wN ω) z ((x - 1) + 1) = if nbr (wN ω) (fun i => z (unr (wN ω) (mnb (wN ω) z (x - 1)) i)) < nbr (wN ω) (fun i => z (unr (wN ω) x i)) then x else mnb (wN ω) z (x - 1) := by
      conv => lhs; unfold mnb
      rw [show x - 1 + 1 = x by omega]
    have n1 := hnb (mnb (wN ω) z (x - 1))
    have n2 := hnb x
    rw [e] at ih
    refine body x _ _ hx k2 fr2 w2 v2 (fun c => ?_) (fun c => ?_)
    · rw [nI_leN (by omega) (by omega)] at c
      rw [if_neg (by omega), ← nI_1 x] at ih
      exact ih
    · rw [nI_leN (by omega) (by omega)] at c
      rw [if_pos (by omega), ← nI_1 x] at ih
      exact ih
