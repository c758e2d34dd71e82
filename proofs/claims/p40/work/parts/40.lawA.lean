/-! THE LAW: cells of the script, factorials -/
theorem and_in (x : Int32) : ∃ c, x &&& nI 2147483647 = nI c ∧ c < 2147483648 := by
  have h : (x &&& nI 2147483647).toBitVec.toNat ≤ 2147483647 := by
    rw [Int32.toBitVec_and, BitVec.toNat_and]
    exact Nat.le_trans Nat.and_le_right (by decide)
  have e : (x &&& nI 2147483647).toInt = ((x &&& nI 2147483647).toBitVec.toNat : Int) := by
    show (x &&& nI 2147483647).toBitVec.toInt = _
    rw [BitVec.toInt_eq_toNat_of_lt (by omega)]
  refine ⟨(x &&& nI 2147483647).toInt.toNat, n_of (by omega), by omega⟩
theorem sp_Law_cell {h : xHp} {k : Nat} (hk : k < 1000) : SpecR g_Law_cell [.retAddr 0, .int (nI k)] h (fun v h' => (∃ c : Nat, v = some (.int (nI c)) ∧ c < 2147483648) ∧ h' = h) := by
  refine SpecR.of (by decide +kernel) (Nat.le_of_ble_eq_true rfl) (fun c hc => by cases hc) (fun v h' z => by
    obtain ⟨⟨c, rfl, -⟩, rfl⟩ := z
    exact ⟨⟨_, rfl⟩, rfl, rfl⟩) (fun Q hQ => ?_)
  have fin : ∀ x : Int32, Q (some (.int (x &&& nI 2147483647))) h := fun x => by
    obtain ⟨c, e, hc⟩ := and_in x
    exact hQ _ _ ⟨⟨c, by rw [e], hc⟩, rfl⟩
  have k9 : ∀ x : Int32, xAt (h.1, h.2.1) g_Law_cell Q 9 (lv_args 0 [.retAddr 0, .int (nI k)]) [.int x] h := fun x => by
    refine xgoal [] 100 ok_Law_cell ?_
    exact fin x
  have k12 : xAt (h.1, h.2.1) g_Law_cell Q 12 (lv_args 0 [.retAddr 0, .int (nI k)]) [] h := by
    refine xgoal [] 100 ok_Law_cell ?_
    exact fin _
  intro p l e s m args below meth c D cI cR b N0 S0 H locs ls X C hl
  obtain ⟨hsz, hb, L, xs, hX, hL⟩ := C.2.2.2.1
  have hbl : b.2 < s.heap.size := by omega
  have hbA : ¬ (fun q : Nat => b.1 ≤ q) b.2 := Nat.not_le.mpr hb
  have e1 := xl_get hl (i := 1) (v := .int (nI k)) rfl
  have e0 := xl_get hl (i := 0) (v := .retAddr 0) rfl
  refine lv_iload_n X.1 X.2.1 (show decode (sgB g_Law_cell) 0 = .ok (.iload_n 1, 1) by decide +kernel) rfl e1 ?_
  refine lv_aload_n X.1 X.2.1 (show decode (sgB g_Law_cell) 1 = .ok (.aload_n 0, 1) by decide +kernel) rfl e0 ?_
  refine va_slen X.1 X.2.1 hX hbl hbA C.2.2.1 (show decode (sgB g_Law_cell) 2 = .ok (.arraylength, 1) by decide +kernel) ?_
  refine lv_icmp_ge (tgt := 12) X.1 X.2.1 (show decode (sgB g_Law_cell) 3 = .ok (.if_icmp .ge 9, 3) by decide +kernel) (by decide) (fun _ => ?_) (fun z => ?_)
  · exact k12 p l e s m args below meth c D cI cR b N0 S0 H locs ls X C hl
  · have hkL : k < L := Nat.lt_of_not_le fun y => z (nI_le y (by omega))
    refine lv_aload_n X.1 X.2.1 (show decode (sgB g_Law_cell) 6 = .ok (.aload_n 0, 1) by decide +kernel) rfl e0 ?_
    refine lv_iload_n X.1 X.2.1 (show decode (sgB g_Law_cell) 7 = .ok (.iload_n 1, 1) by decide +kernel) rfl e1 ?_
    refine va_sld X.1 X.2.1 hX hbl hbA C.2.2.1 (vp_in_nI hkL (by omega)) (show decode (sgB g_Law_cell) 8 = .ok (.iaload, 1) by decide +kernel) ?_
    exact k9 _ p l e s m args below meth c D cI cR b N0 S0 H locs ls X C hl
theorem sp_Law_all {n : Nat} (hn1 : 1 ≤ n) (hn : n ≤ 7) (h : xHp) : Spec g_Law_all [.int (nI n)] h (some (.int (nI (fct n)))) h := by
  refine Spec.of (by decide +kernel) (Nat.le_of_ble_eq_true rfl) ⟨_, rfl⟩ rfl rfl (fun c hc => by cases hc) (fun Q hQ => ?_)
  refine xgoal [(4, [0, 1, 2])] 100 ok_Law_all ?_
  refine up_loop (P := fun i => 1 ≤ i → xAt (h.1, h.2.1) g_Law_all Q 4 [(0, .int (nI n)), (1, .int (nI (fct i))), (2, .int (nI (i + 1)))] [] h) n ?_ (fun i hi ih => ?_) 1 hn1 (Nat.le_refl 1)
  · intro _
    refine xgoal [(4, [0, 1, 2])] 100 ok_Law_all ?_
    exact pk_lt n (n + 1) (fun c => hQ) (fun c => absurd c (by omega))
  · intro h1
    have ih := ih (by omega)
    refine xgoal [(4, [0, 1, 2])] 100 ok_Law_all ?_
    refine pk_lt n (i + 1) (fun c => absurd c (by omega)) (fun c => ?_)
    have e : nI (fct i) * nI (i + 1) = nI (fct (i + 1)) := by
      rw [n_mul, Nat.mul_comm]; rfl
    rw [← e, ← nI_1 (i + 1)] at ih
    exact ih
