/-! THE LAW: its links, its code, its loop -/
set_option maxRecDepth 100000 in
theorem ll_13 : Cond.methodLink R_law 13 (sgN g_TV_setWords) ∈ lw_g := lw_gm 309 rfl rfl
set_option maxRecDepth 100000 in
theorem ll_17 : Cond.methodLink R_law 17 (sgN g_Mo_setWords) ∈ lw_g := lw_gm 875 rfl rfl
set_option maxRecDepth 100000 in
theorem lp_0 : lpat [1] 196 13 17 1040 = true := by decide +kernel
set_option maxRecDepth 100000 in
theorem ll_18 : Cond.methodLink R_law 18 (sgN g_TV_setSound) ∈ lw_g := lw_gm 333 rfl rfl
set_option maxRecDepth 100000 in
theorem ll_22 : Cond.methodLink R_law 22 (sgN g_Mo_setSound) ∈ lw_g := lw_gm 894 rfl rfl
set_option maxRecDepth 100000 in
theorem lp_1 : lpat [1, 2] 219 18 22 1007 = true := by decide +kernel
set_option maxRecDepth 100000 in
theorem ll_23 : Cond.methodLink R_law 23 (sgN g_TV_type) ∈ lw_g := lw_gm 345 rfl rfl
set_option maxRecDepth 100000 in
theorem ll_26 : Cond.methodLink R_law 26 (sgN g_Mo_type) ∈ lw_g := lw_gm 1014 rfl rfl
set_option maxRecDepth 100000 in
theorem lp_2 : lpat [1] 252 23 26 984 = true := by decide +kernel
set_option maxRecDepth 100000 in
theorem ll_27 : Cond.methodLink R_law 27 (sgN g_TV_clear) ∈ lw_g := lw_gm 353 rfl rfl
set_option maxRecDepth 100000 in
theorem ll_31 : Cond.methodLink R_law 31 (sgN g_Mo_clear) ∈ lw_g := lw_gm 1018 rfl rfl
set_option maxRecDepth 100000 in
theorem lp_3 : lpat [] 275 27 31 971 = true := by decide +kernel
set_option maxRecDepth 100000 in
theorem ll_32 : Cond.methodLink R_law 32 (sgN g_TV_loadPoem) ∈ lw_g := lw_gm 357 rfl rfl
set_option maxRecDepth 100000 in
theorem ll_35 : Cond.methodLink R_law 35 (sgN g_Mo_loadPoem) ∈ lw_g := lw_gm 1022 rfl rfl
set_option maxRecDepth 100000 in
theorem lp_4 : lpat [] 288 32 35 958 = true := by decide +kernel
set_option maxRecDepth 100000 in
theorem ll_36 : Cond.methodLink R_law 36 (sgN g_TV_loadTurn) ∈ lw_g := lw_gm 405 rfl rfl
set_option maxRecDepth 100000 in
theorem ll_39 : Cond.methodLink R_law 39 (sgN g_Mo_loadTurn) ∈ lw_g := lw_gm 1050 rfl rfl
set_option maxRecDepth 100000 in
theorem lp_5 : lpat [1] 301 36 39 935 = true := by decide +kernel
set_option maxRecDepth 100000 in
theorem ll_40 : Cond.methodLink R_law 40 (sgN g_TV_make) ∈ lw_g := lw_gm 433 rfl rfl
set_option maxRecDepth 100000 in
theorem ll_44 : Cond.methodLink R_law 44 (sgN g_Mo_make) ∈ lw_g := lw_gm 902 rfl rfl
set_option maxRecDepth 100000 in
theorem lp_6 : lpat [1, 2, 3] 324 40 44 892 = true := by decide +kernel
set_option maxRecDepth 100000 in
theorem ll_45 : Cond.methodLink R_law 45 (sgN g_TV_product) ∈ lw_g := lw_gm 447 rfl rfl
set_option maxRecDepth 100000 in
theorem ll_48 : Cond.methodLink R_law 48 (sgN g_Mo_product) ∈ lw_g := lw_gm 921 rfl rfl
set_option maxRecDepth 100000 in
theorem lp_7 : lpat [1, 2, 3] 367 45 48 849 = true := by decide +kernel
set_option maxRecDepth 100000 in
theorem ll_49 : Cond.methodLink R_law 49 (sgN g_TV_power) ∈ lw_g := lw_gm 455 rfl rfl
set_option maxRecDepth 100000 in
theorem ll_52 : Cond.methodLink R_law 52 (sgN g_Mo_power) ∈ lw_g := lw_gm 933 rfl rfl
set_option maxRecDepth 100000 in
theorem lp_8 : lpat [1, 2, 3] 410 49 52 806 = true := by decide +kernel
set_option maxRecDepth 100000 in
theorem ll_53 : Cond.methodLink R_law 53 (sgN g_TV_unrank) ∈ lw_g := lw_gm 472 rfl rfl
set_option maxRecDepth 100000 in
theorem ll_56 : Cond.methodLink R_law 56 (sgN g_Mo_unrank) ∈ lw_g := lw_gm 951 rfl rfl
set_option maxRecDepth 100000 in
theorem lp_9 : lpat [1, 2] 453 53 56 773 = true := by decide +kernel
set_option maxRecDepth 100000 in
theorem ll_57 : Cond.methodLink R_law 57 (sgN g_TV_root) ∈ lw_g := lw_gm 485 rfl rfl
set_option maxRecDepth 100000 in
theorem ll_60 : Cond.methodLink R_law 60 (sgN g_Mo_root) ∈ lw_g := lw_gm 963 rfl rfl
set_option maxRecDepth 100000 in
theorem lp_10 : lpat [1, 2, 3] 486 57 60 730 = true := by decide +kernel
set_option maxRecDepth 100000 in
theorem ll_61 : Cond.methodLink R_law 61 (sgN g_TV_at) ∈ lw_g := lw_gm 495 rfl rfl
set_option maxRecDepth 100000 in
theorem ll_64 : Cond.methodLink R_law 64 (sgN g_Mo_at) ∈ lw_g := lw_gm 971 rfl rfl
set_option maxRecDepth 100000 in
theorem lp_11 : lpat [1, 2] 529 61 64 697 = true := by decide +kernel
set_option maxRecDepth 100000 in
theorem ll_65 : Cond.methodLink R_law 65 (sgN g_TV_turn) ∈ lw_g := lw_gm 499 rfl rfl
set_option maxRecDepth 100000 in
theorem ll_68 : Cond.methodLink R_law 68 (sgN g_Mo_turn) ∈ lw_g := lw_gm 975 rfl rfl
set_option maxRecDepth 100000 in
theorem lp_12 : lpat [1, 2] 562 65 68 664 = true := by decide +kernel
set_option maxRecDepth 100000 in
theorem ll_69 : Cond.methodLink R_law 69 (sgN g_TV_places) ∈ lw_g := lw_gm 526 rfl rfl
set_option maxRecDepth 100000 in
theorem ll_72 : Cond.methodLink R_law 72 (sgN g_Mo_places) ∈ lw_g := lw_gm 987 rfl rfl
set_option maxRecDepth 100000 in
theorem lp_13 : lpat [1, 2, 3] 595 69 72 621 = true := by decide +kernel
set_option maxRecDepth 100000 in
theorem ll_73 : Cond.methodLink R_law 73 (sgN g_TV_generated) ∈ lw_g := lw_gm 530 rfl rfl
set_option maxRecDepth 100000 in
theorem ll_76 : Cond.methodLink R_law 76 (sgN g_Mo_generated) ∈ lw_g := lw_gm 991 rfl rfl
set_option maxRecDepth 100000 in
theorem lp_14 : lpat [1] 638 73 76 598 = true := by decide +kernel
set_option maxRecDepth 100000 in
theorem ll_77 : Cond.methodLink R_law 77 (sgN g_TV_reach) ∈ lw_g := lw_gm 558 rfl rfl
set_option maxRecDepth 100000 in
theorem ll_80 : Cond.methodLink R_law 80 (sgN g_Mo_reach) ∈ lw_g := lw_gm 1002 rfl rfl
set_option maxRecDepth 100000 in
theorem lp_15 : lpat [1, 2] 661 77 80 565 = true := by decide +kernel
set_option maxRecDepth 100000 in
theorem ll_81 : Cond.methodLink R_law 81 (sgN g_TV_factor) ∈ lw_g := lw_gm 563 rfl rfl
set_option maxRecDepth 100000 in
theorem ll_84 : Cond.methodLink R_law 84 (sgN g_Mo_factor) ∈ lw_g := lw_gm 1006 rfl rfl
set_option maxRecDepth 100000 in
theorem lp_16 : lpat [1, 2, 3] 694 81 84 522 = true := by decide +kernel
set_option maxRecDepth 100000 in
theorem ll_85 : Cond.methodLink R_law 85 (sgN g_TV_add) ∈ lw_g := lw_gm 580 rfl rfl
set_option maxRecDepth 100000 in
theorem ll_88 : Cond.methodLink R_law 88 (sgN g_Mo_add) ∈ lw_g := lw_gm 1058 rfl rfl
set_option maxRecDepth 100000 in
theorem lp_17 : lpat [1] 737 85 88 499 = true := by decide +kernel
set_option maxRecDepth 100000 in
theorem ll_89 : Cond.methodLink R_law 89 (sgN g_TV_drop) ∈ lw_g := lw_gm 586 rfl rfl
set_option maxRecDepth 100000 in
theorem ll_92 : Cond.methodLink R_law 92 (sgN g_Mo_drop) ∈ lw_g := lw_gm 1066 rfl rfl
set_option maxRecDepth 100000 in
theorem lp_18 : lpat [] 760 89 92 486 = true := by decide +kernel
set_option maxRecDepth 100000 in
theorem ll_93 : Cond.methodLink R_law 93 (sgN g_TV_put) ∈ lw_g := lw_gm 590 rfl rfl
set_option maxRecDepth 100000 in
theorem ll_96 : Cond.methodLink R_law 96 (sgN g_Mo_put) ∈ lw_g := lw_gm 1070 rfl rfl
set_option maxRecDepth 100000 in
theorem lp_19 : lpat [1, 2, 3] 773 93 96 443 = true := by decide +kernel
set_option maxRecDepth 100000 in
theorem ll_97 : Cond.methodLink R_law 97 (sgN g_TV_lock) ∈ lw_g := lw_gm 598 rfl rfl
set_option maxRecDepth 100000 in
theorem ll_101 : Cond.methodLink R_law 101 (sgN g_Mo_lock) ∈ lw_g := lw_gm 1078 rfl rfl
set_option maxRecDepth 100000 in
theorem ll_102 : Cond.methodLink R_law 102 (sgN g_TV_word) ∈ lw_g := lw_gm 602 rfl rfl
set_option maxRecDepth 100000 in
theorem ll_105 : Cond.methodLink R_law 105 (sgN g_Mo_word) ∈ lw_g := lw_gm 1082 rfl rfl
set_option maxRecDepth 100000 in
theorem lp_21 : lpat [1, 2] 875 102 105 351 = true := by decide +kernel
set_option maxRecDepth 100000 in
theorem ll_106 : Cond.methodLink R_law 106 (sgN g_TV_proper) ∈ lw_g := lw_gm 606 rfl rfl
set_option maxRecDepth 100000 in
theorem ll_109 : Cond.methodLink R_law 109 (sgN g_Mo_proper) ∈ lw_g := lw_gm 1086 rfl rfl
set_option maxRecDepth 100000 in
theorem lp_22 : lpat [1] 908 106 109 328 = true := by decide +kernel
set_option maxRecDepth 100000 in
theorem ll_110 : Cond.methodLink R_law 110 (sgN g_TV_turning) ∈ lw_g := lw_gm 616 rfl rfl
set_option maxRecDepth 100000 in
theorem ll_113 : Cond.methodLink R_law 113 (sgN g_Mo_turning) ∈ lw_g := lw_gm 1094 rfl rfl
set_option maxRecDepth 100000 in
theorem lp_23 : lpat [1] 931 110 113 305 = true := by decide +kernel
set_option maxRecDepth 100000 in
theorem ll_114 : Cond.methodLink R_law 114 (sgN g_TV_common) ∈ lw_g := lw_gm 627 rfl rfl
set_option maxRecDepth 100000 in
theorem ll_117 : Cond.methodLink R_law 117 (sgN g_Mo_common) ∈ lw_g := lw_gm 1106 rfl rfl
set_option maxRecDepth 100000 in
theorem lp_24 : lpat [1] 954 114 117 282 = true := by decide +kernel
set_option maxRecDepth 100000 in
theorem ll_118 : Cond.methodLink R_law 118 (sgN g_TV_follows) ∈ lw_g := lw_gm 639 rfl rfl
set_option maxRecDepth 100000 in
theorem ll_121 : Cond.methodLink R_law 121 (sgN g_Mo_follows) ∈ lw_g := lw_gm 1114 rfl rfl
set_option maxRecDepth 100000 in
theorem lp_25 : lpat [1] 977 118 121 259 = true := by decide +kernel
set_option maxRecDepth 100000 in
theorem ll_122 : Cond.methodLink R_law 122 (sgN g_TV_cost) ∈ lw_g := lw_gm 643 rfl rfl
set_option maxRecDepth 100000 in
theorem ll_125 : Cond.methodLink R_law 125 (sgN g_Mo_cost) ∈ lw_g := lw_gm 1122 rfl rfl
set_option maxRecDepth 100000 in
theorem lp_26 : lpat [1] 1000 122 125 236 = true := by decide +kernel
set_option maxRecDepth 100000 in
theorem ll_126 : Cond.methodLink R_law 126 (sgN g_TV_mend) ∈ lw_g := lw_gm 669 rfl rfl
set_option maxRecDepth 100000 in
theorem ll_129 : Cond.methodLink R_law 129 (sgN g_Mo_mend) ∈ lw_g := lw_gm 1134 rfl rfl
set_option maxRecDepth 100000 in
theorem lp_27 : lpat [1] 1023 126 129 213 = true := by decide +kernel
set_option maxRecDepth 100000 in
theorem ll_130 : Cond.methodLink R_law 130 (sgN g_TV_best) ∈ lw_g := lw_gm 686 rfl rfl
set_option maxRecDepth 100000 in
theorem ll_133 : Cond.methodLink R_law 133 (sgN g_Mo_best) ∈ lw_g := lw_gm 1138 rfl rfl
set_option maxRecDepth 100000 in
theorem lp_28 : lpat [1] 1046 130 133 190 = true := by decide +kernel
set_option maxRecDepth 100000 in
theorem ll_134 : Cond.methodLink R_law 134 (sgN g_TV_tail) ∈ lw_g := lw_gm 709 rfl rfl
set_option maxRecDepth 100000 in
theorem ll_137 : Cond.methodLink R_law 137 (sgN g_Mo_tail) ∈ lw_g := lw_gm 1142 rfl rfl
set_option maxRecDepth 100000 in
theorem lp_29 : lpat [1] 1069 134 137 167 = true := by decide +kernel
set_option maxRecDepth 100000 in
theorem ll_138 : Cond.methodLink R_law 138 (sgN g_TV_tailWord) ∈ lw_g := lw_gm 723 rfl rfl
set_option maxRecDepth 100000 in
theorem ll_141 : Cond.methodLink R_law 141 (sgN g_Mo_tailWord) ∈ lw_g := lw_gm 1154 rfl rfl
set_option maxRecDepth 100000 in
theorem lp_30 : lpat [1, 2] 1092 138 141 134 = true := by decide +kernel
set_option maxRecDepth 100000 in
theorem ll_142 : Cond.methodLink R_law 142 (sgN g_TV_scheme) ∈ lw_g := lw_gm 727 rfl rfl
set_option maxRecDepth 100000 in
theorem ll_145 : Cond.methodLink R_law 145 (sgN g_Mo_scheme) ∈ lw_g := lw_gm 1158 rfl rfl
set_option maxRecDepth 100000 in
theorem lp_31 : lpat [1] 1125 142 145 111 = true := by decide +kernel
set_option maxRecDepth 100000 in
theorem ll_146 : Cond.methodLink R_law 146 (sgN g_TV_schemes) ∈ lw_g := lw_gm 742 rfl rfl
set_option maxRecDepth 100000 in
theorem ll_149 : Cond.methodLink R_law 149 (sgN g_Mo_schemes) ∈ lw_g := lw_gm 1174 rfl rfl
set_option maxRecDepth 100000 in
theorem lp_32 : lpat [1, 2] 1148 146 149 78 = true := by decide +kernel
set_option maxRecDepth 100000 in
theorem ll_150 : Cond.methodLink R_law 150 (sgN g_TV_coupled) ∈ lw_g := lw_gm 755 rfl rfl
set_option maxRecDepth 100000 in
theorem ll_153 : Cond.methodLink R_law 153 (sgN g_Mo_coupled) ∈ lw_g := lw_gm 1178 rfl rfl
set_option maxRecDepth 100000 in
theorem lp_33 : lpat [1] 1181 150 153 55 = true := by decide +kernel
set_option maxRecDepth 100000 in
theorem ll_154 : Cond.methodLink R_law 154 (sgN g_TV_told) ∈ lw_g := lw_gm 767 rfl rfl
set_option maxRecDepth 100000 in
theorem ll_157 : Cond.methodLink R_law 157 (sgN g_Mo_told) ∈ lw_g := lw_gm 1182 rfl rfl
set_option maxRecDepth 100000 in
theorem lp_34 : lpat [1] 1204 154 157 32 = true := by decide +kernel
set_option maxRecDepth 100000 in
theorem ll_158 : Cond.methodLink R_law 158 (sgN g_TV_undo) ∈ lw_g := lw_gm 777 rfl rfl
set_option maxRecDepth 100000 in
theorem ll_161 : Cond.methodLink R_law 161 (sgN g_Mo_undo) ∈ lw_g := lw_gm 1194 rfl rfl
set_option maxRecDepth 100000 in
theorem lp_35 : lpat [] 1227 158 161 19 = true := by decide +kernel
set_option maxRecDepth 100000 in
theorem ll_162 : Cond.methodLink R_law 162 (sgN g_TV_digest) ∈ lw_g := lw_gm 785 rfl rfl
set_option maxRecDepth 100000 in
theorem ll_166 : Cond.methodLink R_law 166 (sgN g_Mo_digest) ∈ lw_g := lw_gm 1198 rfl rfl
set_option maxRecDepth 100000 in
theorem d_law_32 : decode code 32 = .ok (.tableswitch 1222 0 36 #[164, 187, 220, 243, 256, 269, 292, 335, 378, 421, 454, 497, 530, 563, 606, 629, 662, 705, 728, 741, 784, 843, 876, 899, 922, 945, 968, 991, 1014, 1037, 1060, 1093, 1116, 1149, 1172, 1195, 1208], 164) := by decide +kernel
theorem lk_in {i : Nat} {x : Int32} : ∃ k, x &&& nI 63 = nI k ∧ k < 64 := by
  have h : (x &&& nI 63).toBitVec.toNat ≤ 63 := by
    rw [Int32.toBitVec_and, BitVec.toNat_and]
    exact Nat.le_trans Nat.and_le_right (by decide)
  have e : (x &&& nI 63).toInt = ((x &&& nI 63).toBitVec.toNat : Int) := by
    show (x &&& nI 63).toBitVec.toInt = _
    rw [BitVec.toInt_eq_toNat_of_lt (by omega)]
  refine ⟨(x &&& nI 63).toInt.toNat, n_of (by omega), by omega⟩
theorem lw_bool {p : Program} {l : Launch} {e : Env} {s : State} {m : MethodId} {args : Array Value} {below : List Frame} {meth : Method} {c : Code} {H : Heap} {locs : List Loc} {cells slots q : Nat} {Qw : State → Prop} {ls : Array Slot} {x : Int32} {st : List Value} (X : LX p s m args c)
    (d : (decide (decode code q = .ok (.ifCond .eq 7, 3)) && (decide (decode code (q + 3) = .ok (.iconst 1, 1)) && (decide (decode code (q + 3 + 1) = .ok (.goto 4, 3)) && decide (decode code (q + 7) = .ok (.iconst 0, 1))))) = true)
    (k : W p l e room_1 s m args below meth c H locs cells slots Qw (F0 m (q + 8) ls (.int (if x = 0 then 0 else 1) :: st))) : W p l e room_1 s m args below meth c H locs cells slots Qw (F0 m q ls (.int x :: st)) := by
  rw [Bool.and_eq_true, Bool.and_eq_true, Bool.and_eq_true, decide_eq_true_eq, decide_eq_true_eq, decide_eq_true_eq, decide_eq_true_eq] at d
  obtain ⟨d1, d2, d3, d4⟩ := d
  obtain ⟨hx, hb, -, -, -⟩ := id X
  refine lv_if_eq (tgt := q + 7) hx hb d1 (by omega) (fun z => ?_) (fun z => ?_)
  · rw [if_pos z] at k
    exact lv_iconst (v := 0) hx hb d4 (by decide) k
  · rw [if_neg z] at k
    refine lv_iconst (v := 1) hx hb d2 (by decide) ?_
    exact lv_goto (tgt := q + 8) hx hb d3 (by omega) k
set_option maxRecDepth 100000 in
theorem lp_20 : (decide (decode code 816 = .ok (.aload_n 1, 1)) && (largs [1, 2, 3] 817 && (decide (decode code 840 = .ok (.invokevirtual 97, 3)) && (decide (decode code 843 = .ok (.aload_n 2, 1)) && (largs [1, 2, 3] 844 && (decide (decode code 867 = .ok (.invokevirtual 101, 3)) && (decide (decode code 870 = .ok (.if_icmp .eq 384, 3))))))))) = true := by decide +kernel
set_option maxRecDepth 100000 in
theorem lp_20a : (decide (decode code 832 = .ok (.ifCond .eq 7, 3)) && (decide (decode code (832 + 3) = .ok (.iconst 1, 1)) && (decide (decode code (832 + 3 + 1) = .ok (.goto 4, 3)) && decide (decode code (832 + 7) = .ok (.iconst 0, 1))))) = true := by decide +kernel
set_option maxRecDepth 100000 in
theorem lp_20b : (decide (decode code 859 = .ok (.ifCond .eq 7, 3)) && (decide (decode code (859 + 3) = .ok (.iconst 1, 1)) && (decide (decode code (859 + 3 + 1) = .ok (.goto 4, 3)) && decide (decode code (859 + 7) = .ok (.iconst 0, 1))))) = true := by decide +kernel
set_option maxRecDepth 100000 in
theorem lp_36 : (decide (decode code 1240 = .ok (.aload_n 1, 1)) && (decide (decode code 1241 = .ok (.invokevirtual 162, 3)) && (decide (decode code 1244 = .ok (.aload_n 2, 1)) && (decide (decode code 1245 = .ok (.invokevirtual 166, 3)) && (decide (decode code 1248 = .ok (.lcmp, 1)) && (decide (decode code 1249 = .ok (.ifCond .eq 5, 3)))))))) = true := by decide +kernel
set_option maxRecDepth 100000 in
theorem lp_rest : (decide (decode code 0 = .ok (.new 7, 3)) && (decide (decode code 3 = .ok (.dup, 1)) && (decide (decode code 4 = .ok (.invokespecial 9, 3)) && (decide (decode code 7 = .ok (.astore_n 1, 1)) && (decide (decode code 8 = .ok (.new 10, 3)) && (decide (decode code 11 = .ok (.dup, 1)) && (decide (decode code 12 = .ok (.invokespecial 12, 3)) && (decide (decode code 15 = .ok (.astore_n 2, 1)) && (decide (decode code 16 = .ok (.iconst 0, 1)) && (decide (decode code 17 = .ok (.istore_n 3, 1)))))))))))) = true := by decide +kernel
set_option maxRecDepth 100000 in
theorem lp_head : (decide (decode code 18 = .ok (.iload_n 3, 1)) && (decide (decode code 19 = .ok (.aload_n 0, 1)) && (decide (decode code 20 = .ok (.arraylength, 1)) && (decide (decode code 21 = .ok (.iconst 4, 1)) && (decide (decode code 22 = .ok (.isub, 1)) && (decide (decode code 23 = .ok (.if_icmp .gt 1237, 3)) && (decide (decode code 26 = .ok (.aload_n 0, 1)) && (decide (decode code 27 = .ok (.iload_n 3, 1)) && (decide (decode code 28 = .ok (.iaload, 1)) && (decide (decode code 29 = .ok (.bipush 63, 2)) && (decide (decode code 31 = .ok (.iand, 1))))))))))))) = true := by decide +kernel
set_option maxRecDepth 100000 in
theorem lp_end : (decide (decode code 1254 = .ok (.iinc 3 4, 3)) && (decide (decode code 1257 = .ok (.goto (-1239), 3)) && (decide (decode code 1260 = .ok (.iconst 1, 1)) && (decide (decode code 1261 = .ok (.ireturn, 1)))))) = true := by decide +kernel
set_option maxHeartbeats 4000000 in
theorem law_loop {p : Program} {l : Launch} {e : Env} {s : State} {m : MethodId} {below : List Frame} {meth : Method} {c : Code} {D : va_G} {cI cR : ClassId} {b L : Nat} {xs : Nat → Int32} (hL : L ≤ 2048) (C0 : lw_At p s m meth c b L xs) :
    ∀ (n i : Nat), i ≤ L → L + 1 ≤ i + n → ∀ (ω : Wv) (H : Heap) (locs : List Loc) (ls : Array Slot), wok ω → LI s D cI cR ω H locs → lv_has ls 4 [(3, .int (nI i)), (2, .ref (s.heap.size + 84)), (1, .ref (s.heap.size + 0)), (0, .ref b)] → W p l e room_1 s m #[Value.ref b] below meth c H locs 98 22955 (lw_Z below #[Value.ref b] s) (F0 m 18 ls []) := by
  obtain ⟨hx, hb, hr, hml, hown, hts, hX, hbl, hlocks, hgv⟩ := id C0
  have X : LX p s m #[Value.ref b] c := ⟨hx, hb, hml, hown, fun w hw => hts w (lw_gt hw)⟩
  have hbA : ¬ (fun q : Nat => s.heap.size ≤ q) b := Nat.not_le.mpr hbl
  have pH := lp_head
  rw [Bool.and_eq_true, Bool.and_eq_true, Bool.and_eq_true, Bool.and_eq_true, Bool.and_eq_true, Bool.and_eq_true, Bool.and_eq_true, Bool.and_eq_true, Bool.and_eq_true, Bool.and_eq_true, decide_eq_true_eq, decide_eq_true_eq, decide_eq_true_eq, decide_eq_true_eq, decide_eq_true_eq, decide_eq_true_eq, decide_eq_true_eq, decide_eq_true_eq, decide_eq_true_eq, decide_eq_true_eq, decide_eq_true_eq] at pH
  obtain ⟨h18, h19, h20, h21, h22, h23, h26, h27, h28, h29, h31⟩ := pH
  have pE := lp_end
  rw [Bool.and_eq_true, Bool.and_eq_true, Bool.and_eq_true, decide_eq_true_eq, decide_eq_true_eq, decide_eq_true_eq, decide_eq_true_eq] at pE
  obtain ⟨h1254, h1257, h1260, h1261⟩ := pE
  intro n
  induction n with
  | zero => intro i h1 h2; exact absurd h2 (by omega)
  | succ n ih =>
    intro i hi hin ω H locs ls k I hl
    obtain ⟨h, C, wT, wM⟩ := id I
    refine lv_iload_n hx hb h18 rfl (lv_at hl 0 rfl) ?_
    refine lv_aload_n hx hb h19 rfl (lv_at hl 3 rfl) ?_
    refine va_slen hx hb hX hbl hbA C.2.2.1 h20 ?_
    refine lv_iconst (v := nI 4) hx hb h21 (by decide) ?_
    refine lv_isub hx hb h22 ?_
    refine lv_icmp_gt (tgt := 1260) hx hb h23 (by decide) (fun _ => ?_) (fun cg => ?_)
    · refine lv_iconst (v := 1) hx hb h1260 (by decide) ?_
      refine va_forget (fun q hq => C.2.2.1.2.2 q hq) ?_
      refine W.widen (k := 600000) (n := 7302250) (Nat.le_of_ble_eq_true rfl) (Nat.le_of_ble_eq_true rfl) ?_
      exact lw_ret hx hb hr hlocks h1261
    · have hjs : i + 3 < L := by
        refine Nat.lt_of_not_le fun z => cg ?_
        rw [Int32.lt_iff_toInt_lt, nI_toInt (by omega)]
        show (nI L - nI 4).toInt < _
        rw [pk_sub_toInt (by omega) (by omega)]
        omega
      refine lv_aload_n hx hb h26 rfl (lv_at hl 3 rfl) ?_
      refine lv_iload_n hx hb h27 rfl (lv_at hl 0 rfl) ?_
      refine va_sld hx hb hX hbl hbA C.2.2.1 (vp_in_nI (show i < L by omega) (by omega)) h28 ?_
      refine lv_bipush (v := nI 63) hx hb h29 (by decide) ?_
      refine lv_iand hx hb h31 ?_
      obtain ⟨kk, ek, hk64⟩ := lk_in (i := 0) (x := xs (nI i).toNatClampNeg)
      rw [ek]
      have cont : ∀ ω' : Wv, wok ω' → ∀ H' locs', LI s D cI cR ω' H' locs' → W p l e room_1 s m #[Value.ref b] below meth c H' locs' 98 22955 (lw_Z below #[Value.ref b] s) (F0 m 1254 ls []) := fun ω' k' H' locs' I' => by
        refine lv_iinc (v := nI (i + 4)) (lv' := [(3, .int (nI (i + 4))), (2, .ref (s.heap.size + 84)), (1, .ref (s.heap.size + 0)), (0, .ref b)]) hx hb h1254 hl (k := 0) rfl (nI_add i 4) (by decide) rfl (fun ls hl => ?_)
        refine lv_goto (tgt := 18) hx hb h1257 (by decide) ?_
        exact ih (i + 4) (by omega) (by omega) ω' H' locs' ls k' I' hl
      have hcs : 98 ≤ 600000 ∧ 22955 ≤ 7302250 := ⟨Nat.le_of_ble_eq_true rfl, Nat.le_of_ble_eq_true rfl⟩
      have hjj : ∀ j, j ∈ [1, 2, 3] → j < 4 ∧ i + j < L := fun j hm => by
        simp only [List.mem_cons, List.not_mem_nil, or_false] at hm
        omega
      have case20 : W p l e room_1 s m #[Value.ref b] below meth c H locs 98 22955 (lw_Z below #[Value.ref b] s) (F0 m 816 ls []) := by
        have pL := lp_20
        rw [Bool.and_eq_true, Bool.and_eq_true, Bool.and_eq_true, Bool.and_eq_true, Bool.and_eq_true, Bool.and_eq_true, decide_eq_true_eq, decide_eq_true_eq, decide_eq_true_eq, decide_eq_true_eq, decide_eq_true_eq] at pL
        obtain ⟨d1, d2, d3, d4, d5, d6, d7⟩ := pL
        refine lv_aload_n hx hb d1 rfl (lv_at hl 2 rfl) ?_
        refine lw_args X hX hbl C.2.2.1 hL (lv_at hl 3 rfl) (lv_at hl 0 rfl) [1, 2, 3] 817 _ hjj d2 ?_
        refine lw_bool X lp_20a ?_
        refine lw_virt (ra := 0) (As := [.int (xs (i + 1)), .int (xs (i + 2)), .int (if xs (i + 3) = 0 then 0 else 1)]) (rest := []) X C hl.1 ll_97 xmv_TV_lock (by decide) (by decide) rfl rfl (sp_TV_lock wT k) (Nat.zero_le _) d3 hcs (fun r h1 H1 locs1 z C1 => ?_)
        obtain ⟨rfl, wT1, fr1⟩ := z
        have wM1 := wM.fr fr1 (by omega)
        refine lv_aload_n hx hb d4 rfl (lv_at hl 1 rfl) ?_
        refine lw_args X hX hbl C1.2.2.1 hL (lv_at hl 3 rfl) (lv_at hl 0 rfl) [1, 2, 3] 844 _ hjj d5 ?_
        refine lw_bool X lp_20b ?_
        refine lw_virt (ra := 84) (As := [.int (xs (i + 1)), .int (xs (i + 2)), .int (if xs (i + 3) = 0 then 0 else 1)]) (rest := [.int (stLock ω (xs (i + 1)) (xs (i + 2)) (if xs (i + 3) = 0 then 0 else 1)).1]) X C1 hl.1 ll_101 xmv_Mo_lock (by decide) (by decide) rfl rfl (sp_Mo_lock wM1 k) (Nat.le_of_ble_eq_true rfl) d6 hcs (fun r h2 H2 locs2 z C2 => ?_)
        obtain ⟨rfl, wM2, fr2⟩ := z
        have wT2 := wT1.fr fr2 (by omega)
        exact lv_icmp_eq (tgt := 1254) hx hb d7 (by decide) (fun _ => cont _ (wk_lock k _ _ _) H2 locs2 ⟨h2, C2, wT2, wM2⟩) (fun z => absurd rfl z)
      have case36 : W p l e room_1 s m #[Value.ref b] below meth c H locs 98 22955 (lw_Z below #[Value.ref b] s) (F0 m 1240 ls []) := by
        have pL := lp_36
        rw [Bool.and_eq_true, Bool.and_eq_true, Bool.and_eq_true, Bool.and_eq_true, Bool.and_eq_true, decide_eq_true_eq, decide_eq_true_eq, decide_eq_true_eq, decide_eq_true_eq, decide_eq_true_eq, decide_eq_true_eq] at pL
        obtain ⟨d1, d2, d3, d4, d5, d6⟩ := pL
        refine lv_aload_n hx hb d1 rfl (lv_at hl 2 rfl) ?_
        refine lw_virt (ra := 0) (As := []) (rest := []) X C hl.1 ll_162 xmv_TV_digest (by decide) (by decide) rfl rfl (sp_TV_digest wT k) (Nat.zero_le _) d2 hcs (fun r h1 H1 locs1 z C1 => ?_)
        obtain ⟨rfl, wT1, fr1⟩ := z
        have wM1 := wM.fr fr1 (by omega)
        refine lv_aload_n hx hb d3 rfl (lv_at hl 1 rfl) ?_
        refine lw_virt (ra := 84) (As := []) (rest := [.long (dig ω)]) X C1 hl.1 ll_166 xmv_Mo_digest (by decide) (by decide) rfl rfl (sp_Mo_digest wM1 k) (Nat.le_of_ble_eq_true rfl) d4 hcs (fun r h2 H2 locs2 z C2 => ?_)
        obtain ⟨rfl, wM2, fr2⟩ := z
        have wT2 := wT1.fr fr2 (by omega)
        refine W.lcmp hx hb d5 ?_
        refine lv_if_eq (tgt := 1254) hx hb d6 (by decide) (fun _ => cont _ k H2 locs2 ⟨h2, C2, wT2, wM2⟩) (fun z => absurd ?_ z)
        unfold lg_cmp
        rw [if_neg (fun y => by rw [gt_iff_lt, Int64.lt_iff_toInt_lt] at y; omega), if_pos rfl]
      by_cases e0 : kk = 0
      · subst e0
        refine lv_tableIn (off := 164) (tgt := 196) hx hb d_law_32 (by rw [nI_toInt (by omega)]; omega) (by rw [nI_toInt (by omega)]; omega) (by rw [nI_toInt (by omega)]; rfl) (by decide) ?_
        exact lw_case (js := [1]) (stSetWords ω (xs (i + 1))) X hl hX hbl hL hjs I (fun h w => sp_TV_setWords w k) (fun h w => sp_Mo_setWords w k) ll_13 ll_17 xmv_TV_setWords xmv_Mo_setWords (by decide) (by decide) lp_0 (by decide) (cont _ (wk_setWords k (xs (i + 1))))
      by_cases e1 : kk = 1
      · subst e1
        refine lv_tableIn (off := 187) (tgt := 219) hx hb d_law_32 (by rw [nI_toInt (by omega)]; omega) (by rw [nI_toInt (by omega)]; omega) (by rw [nI_toInt (by omega)]; rfl) (by decide) ?_
        exact lw_case (js := [1, 2]) (stSetSound ω (xs (i + 1)) (xs (i + 2))) X hl hX hbl hL hjs I (fun h w => sp_TV_setSound w k) (fun h w => sp_Mo_setSound w k) ll_18 ll_22 xmv_TV_setSound xmv_Mo_setSound (by decide) (by decide) lp_1 (by decide) (cont _ (wk_setSound k (xs (i + 1)) (xs (i + 2))))
      by_cases e2 : kk = 2
      · subst e2
        refine lv_tableIn (off := 220) (tgt := 252) hx hb d_law_32 (by rw [nI_toInt (by omega)]; omega) (by rw [nI_toInt (by omega)]; omega) (by rw [nI_toInt (by omega)]; rfl) (by decide) ?_
        exact lw_case (js := [1]) (stType ω (xs (i + 1))) X hl hX hbl hL hjs I (fun h w => sp_TV_type w k) (fun h w => sp_Mo_type w k) ll_23 ll_26 xmv_TV_type xmv_Mo_type (by decide) (by decide) lp_2 (by decide) (cont _ (wk_type k (xs (i + 1))))
      by_cases e3 : kk = 3
      · subst e3
        refine lv_tableIn (off := 243) (tgt := 275) hx hb d_law_32 (by rw [nI_toInt (by omega)]; omega) (by rw [nI_toInt (by omega)]; omega) (by rw [nI_toInt (by omega)]; rfl) (by decide) ?_
        exact lw_case (js := []) (stClear ω) X hl hX hbl hL hjs I (fun h w => sp_TV_clear w k) (fun h w => sp_Mo_clear w k) ll_27 ll_31 xmv_TV_clear xmv_Mo_clear (by decide) (by decide) lp_3 (by decide) (cont _ (wk_clear k))
      by_cases e4 : kk = 4
      · subst e4
        refine lv_tableIn (off := 256) (tgt := 288) hx hb d_law_32 (by rw [nI_toInt (by omega)]; omega) (by rw [nI_toInt (by omega)]; omega) (by rw [nI_toInt (by omega)]; rfl) (by decide) ?_
        exact lw_case (js := []) (stLoadPoem ω) X hl hX hbl hL hjs I (fun h w => sp_TV_loadPoem w k) (fun h w => sp_Mo_loadPoem w k) ll_32 ll_35 xmv_TV_loadPoem xmv_Mo_loadPoem (by decide) (by decide) lp_4 (by decide) (cont _ (wk_loadPoem k))
      by_cases e5 : kk = 5
      · subst e5
        refine lv_tableIn (off := 269) (tgt := 301) hx hb d_law_32 (by rw [nI_toInt (by omega)]; omega) (by rw [nI_toInt (by omega)]; omega) (by rw [nI_toInt (by omega)]; rfl) (by decide) ?_
        exact lw_case (js := [1]) (stLoadTurn ω (xs (i + 1))) X hl hX hbl hL hjs I (fun h w => sp_TV_loadTurn w k) (fun h w => sp_Mo_loadTurn w k) ll_36 ll_39 xmv_TV_loadTurn xmv_Mo_loadTurn (by decide) (by decide) lp_5 (by decide) (cont _ (wk_loadTurn k (xs (i + 1))))
      by_cases e6 : kk = 6
      · subst e6
        refine lv_tableIn (off := 292) (tgt := 324) hx hb d_law_32 (by rw [nI_toInt (by omega)]; omega) (by rw [nI_toInt (by omega)]; omega) (by rw [nI_toInt (by omega)]; rfl) (by decide) ?_
        exact lw_case (js := [1, 2, 3]) (stMake ω (xs (i + 1)) (xs (i + 2)) (xs (i + 3))) X hl hX hbl hL hjs I (fun h w => sp_TV_make w k) (fun h w => sp_Mo_make w k) ll_40 ll_44 xmv_TV_make xmv_Mo_make (by decide) (by decide) lp_6 (by decide) (cont _ (wk_make k (xs (i + 1)) (xs (i + 2)) (xs (i + 3))))
      by_cases e7 : kk = 7
      · subst e7
        refine lv_tableIn (off := 335) (tgt := 367) hx hb d_law_32 (by rw [nI_toInt (by omega)]; omega) (by rw [nI_toInt (by omega)]; omega) (by rw [nI_toInt (by omega)]; rfl) (by decide) ?_
        exact lw_case (js := [1, 2, 3]) (stProduct ω (xs (i + 1)) (xs (i + 2)) (xs (i + 3))) X hl hX hbl hL hjs I (fun h w => sp_TV_product w k) (fun h w => sp_Mo_product w k) ll_45 ll_48 xmv_TV_product xmv_Mo_product (by decide) (by decide) lp_7 (by decide) (cont _ (wk_product k (xs (i + 1)) (xs (i + 2)) (xs (i + 3))))
      by_cases e8 : kk = 8
      · subst e8
        refine lv_tableIn (off := 378) (tgt := 410) hx hb d_law_32 (by rw [nI_toInt (by omega)]; omega) (by rw [nI_toInt (by omega)]; omega) (by rw [nI_toInt (by omega)]; rfl) (by decide) ?_
        exact lw_case (js := [1, 2, 3]) (stPower ω (xs (i + 1)) (xs (i + 2)) (xs (i + 3))) X hl hX hbl hL hjs I (fun h w => sp_TV_power w k) (fun h w => sp_Mo_power w k) ll_49 ll_52 xmv_TV_power xmv_Mo_power (by decide) (by decide) lp_8 (by decide) (cont _ (wk_power k (xs (i + 1)) (xs (i + 2)) (xs (i + 3))))
      by_cases e9 : kk = 9
      · subst e9
        refine lv_tableIn (off := 421) (tgt := 453) hx hb d_law_32 (by rw [nI_toInt (by omega)]; omega) (by rw [nI_toInt (by omega)]; omega) (by rw [nI_toInt (by omega)]; rfl) (by decide) ?_
        exact lw_case (js := [1, 2]) (stUnrank ω (xs (i + 1)) (xs (i + 2))) X hl hX hbl hL hjs I (fun h w => sp_TV_unrank w k) (fun h w => sp_Mo_unrank w k) ll_53 ll_56 xmv_TV_unrank xmv_Mo_unrank (by decide) (by decide) lp_9 (by decide) (cont _ (wk_unrank k (xs (i + 1)) (xs (i + 2))))
      by_cases e10 : kk = 10
      · subst e10
        refine lv_tableIn (off := 454) (tgt := 486) hx hb d_law_32 (by rw [nI_toInt (by omega)]; omega) (by rw [nI_toInt (by omega)]; omega) (by rw [nI_toInt (by omega)]; rfl) (by decide) ?_
        exact lw_case (js := [1, 2, 3]) (stRoot ω (xs (i + 1)) (xs (i + 2)) (xs (i + 3))) X hl hX hbl hL hjs I (fun h w => sp_TV_root w k) (fun h w => sp_Mo_root w k) ll_57 ll_60 xmv_TV_root xmv_Mo_root (by decide) (by decide) lp_10 (by decide) (cont _ (wk_root k (xs (i + 1)) (xs (i + 2)) (xs (i + 3))))
      by_cases e11 : kk = 11
      · subst e11
        refine lv_tableIn (off := 497) (tgt := 529) hx hb d_law_32 (by rw [nI_toInt (by omega)]; omega) (by rw [nI_toInt (by omega)]; omega) (by rw [nI_toInt (by omega)]; rfl) (by decide) ?_
        exact lw_case (js := [1, 2]) (stAt ω (xs (i + 1)) (xs (i + 2))) X hl hX hbl hL hjs I (fun h w => sp_TV_at w k) (fun h w => sp_Mo_at w k) ll_61 ll_64 xmv_TV_at xmv_Mo_at (by decide) (by decide) lp_11 (by decide) (cont _ (wk_at k (xs (i + 1)) (xs (i + 2))))
      by_cases e12 : kk = 12
      · subst e12
        refine lv_tableIn (off := 530) (tgt := 562) hx hb d_law_32 (by rw [nI_toInt (by omega)]; omega) (by rw [nI_toInt (by omega)]; omega) (by rw [nI_toInt (by omega)]; rfl) (by decide) ?_
        exact lw_case (js := [1, 2]) (stTurn ω (xs (i + 1)) (xs (i + 2))) X hl hX hbl hL hjs I (fun h w => sp_TV_turn w k) (fun h w => sp_Mo_turn w k) ll_65 ll_68 xmv_TV_turn xmv_Mo_turn (by decide) (by decide) lp_12 (by decide) (cont _ (wk_turn k (xs (i + 1)) (xs (i + 2))))
      by_cases e13 : kk = 13
      · subst e13
        refine lv_tableIn (off := 563) (tgt := 595) hx hb d_law_32 (by rw [nI_toInt (by omega)]; omega) (by rw [nI_toInt (by omega)]; omega) (by rw [nI_toInt (by omega)]; rfl) (by decide) ?_
        exact lw_case (js := [1, 2, 3]) (stPlaces ω (xs (i + 1)) (xs (i + 2)) (xs (i + 3))) X hl hX hbl hL hjs I (fun h w => sp_TV_places w k) (fun h w => sp_Mo_places w k) ll_69 ll_72 xmv_TV_places xmv_Mo_places (by decide) (by decide) lp_13 (by decide) (cont _ (wk_places k (xs (i + 1)) (xs (i + 2)) (xs (i + 3))))
      by_cases e14 : kk = 14
      · subst e14
        refine lv_tableIn (off := 606) (tgt := 638) hx hb d_law_32 (by rw [nI_toInt (by omega)]; omega) (by rw [nI_toInt (by omega)]; omega) (by rw [nI_toInt (by omega)]; rfl) (by decide) ?_
        exact lw_case (js := [1]) (stGenerated ω (xs (i + 1))) X hl hX hbl hL hjs I (fun h w => sp_TV_generated w k) (fun h w => sp_Mo_generated w k) ll_73 ll_76 xmv_TV_generated xmv_Mo_generated (by decide) (by decide) lp_14 (by decide) (cont _ (wk_generated k (xs (i + 1))))
      by_cases e15 : kk = 15
      · subst e15
        refine lv_tableIn (off := 629) (tgt := 661) hx hb d_law_32 (by rw [nI_toInt (by omega)]; omega) (by rw [nI_toInt (by omega)]; omega) (by rw [nI_toInt (by omega)]; rfl) (by decide) ?_
        exact lw_case (js := [1, 2]) (stReach ω (xs (i + 1)) (xs (i + 2))) X hl hX hbl hL hjs I (fun h w => sp_TV_reach w k) (fun h w => sp_Mo_reach w k) ll_77 ll_80 xmv_TV_reach xmv_Mo_reach (by decide) (by decide) lp_15 (by decide) (cont _ (wk_reach k (xs (i + 1)) (xs (i + 2))))
      by_cases e16 : kk = 16
      · subst e16
        refine lv_tableIn (off := 662) (tgt := 694) hx hb d_law_32 (by rw [nI_toInt (by omega)]; omega) (by rw [nI_toInt (by omega)]; omega) (by rw [nI_toInt (by omega)]; rfl) (by decide) ?_
        exact lw_case (js := [1, 2, 3]) (stFactor ω (xs (i + 1)) (xs (i + 2)) (xs (i + 3))) X hl hX hbl hL hjs I (fun h w => sp_TV_factor w k) (fun h w => sp_Mo_factor w k) ll_81 ll_84 xmv_TV_factor xmv_Mo_factor (by decide) (by decide) lp_16 (by decide) (cont _ (wk_factor k (xs (i + 1)) (xs (i + 2)) (xs (i + 3))))
      by_cases e17 : kk = 17
      · subst e17
        refine lv_tableIn (off := 705) (tgt := 737) hx hb d_law_32 (by rw [nI_toInt (by omega)]; omega) (by rw [nI_toInt (by omega)]; omega) (by rw [nI_toInt (by omega)]; rfl) (by decide) ?_
        exact lw_case (js := [1]) (stAdd ω (xs (i + 1))) X hl hX hbl hL hjs I (fun h w => sp_TV_add w k) (fun h w => sp_Mo_add w k) ll_85 ll_88 xmv_TV_add xmv_Mo_add (by decide) (by decide) lp_17 (by decide) (cont _ (wk_add k (xs (i + 1))))
      by_cases e18 : kk = 18
      · subst e18
        refine lv_tableIn (off := 728) (tgt := 760) hx hb d_law_32 (by rw [nI_toInt (by omega)]; omega) (by rw [nI_toInt (by omega)]; omega) (by rw [nI_toInt (by omega)]; rfl) (by decide) ?_
        exact lw_case (js := []) (stDrop ω) X hl hX hbl hL hjs I (fun h w => sp_TV_drop w k) (fun h w => sp_Mo_drop w k) ll_89 ll_92 xmv_TV_drop xmv_Mo_drop (by decide) (by decide) lp_18 (by decide) (cont _ (wk_drop k))
      by_cases e19 : kk = 19
      · subst e19
        refine lv_tableIn (off := 741) (tgt := 773) hx hb d_law_32 (by rw [nI_toInt (by omega)]; omega) (by rw [nI_toInt (by omega)]; omega) (by rw [nI_toInt (by omega)]; rfl) (by decide) ?_
        exact lw_case (js := [1, 2, 3]) (stPut ω (xs (i + 1)) (xs (i + 2)) (xs (i + 3))) X hl hX hbl hL hjs I (fun h w => sp_TV_put w k) (fun h w => sp_Mo_put w k) ll_93 ll_96 xmv_TV_put xmv_Mo_put (by decide) (by decide) lp_19 (by decide) (cont _ (wk_put k (xs (i + 1)) (xs (i + 2)) (xs (i + 3))))
      by_cases e20 : kk = 20
      · subst e20
        refine lv_tableIn (off := 784) (tgt := 816) hx hb d_law_32 (by rw [nI_toInt (by omega)]; omega) (by rw [nI_toInt (by omega)]; omega) (by rw [nI_toInt (by omega)]; rfl) (by decide) ?_
        exact case20
      by_cases e21 : kk = 21
      · subst e21
        refine lv_tableIn (off := 843) (tgt := 875) hx hb d_law_32 (by rw [nI_toInt (by omega)]; omega) (by rw [nI_toInt (by omega)]; omega) (by rw [nI_toInt (by omega)]; rfl) (by decide) ?_
        exact lw_case (js := [1, 2]) (stWord ω (xs (i + 1)) (xs (i + 2))) X hl hX hbl hL hjs I (fun h w => sp_TV_word w k) (fun h w => sp_Mo_word w k) ll_102 ll_105 xmv_TV_word xmv_Mo_word (by decide) (by decide) lp_21 (by decide) (cont _ (wk_word k (xs (i + 1)) (xs (i + 2))))
      by_cases e22 : kk = 22
      · subst e22
        refine lv_tableIn (off := 876) (tgt := 908) hx hb d_law_32 (by rw [nI_toInt (by omega)]; omega) (by rw [nI_toInt (by omega)]; omega) (by rw [nI_toInt (by omega)]; rfl) (by decide) ?_
        exact lw_case (js := [1]) (stProper ω (xs (i + 1))) X hl hX hbl hL hjs I (fun h w => sp_TV_proper w k) (fun h w => sp_Mo_proper w k) ll_106 ll_109 xmv_TV_proper xmv_Mo_proper (by decide) (by decide) lp_22 (by decide) (cont _ (wk_proper k (xs (i + 1))))
      by_cases e23 : kk = 23
      · subst e23
        refine lv_tableIn (off := 899) (tgt := 931) hx hb d_law_32 (by rw [nI_toInt (by omega)]; omega) (by rw [nI_toInt (by omega)]; omega) (by rw [nI_toInt (by omega)]; rfl) (by decide) ?_
        exact lw_case (js := [1]) (stTurning ω (xs (i + 1))) X hl hX hbl hL hjs I (fun h w => sp_TV_turning w k) (fun h w => sp_Mo_turning w k) ll_110 ll_113 xmv_TV_turning xmv_Mo_turning (by decide) (by decide) lp_23 (by decide) (cont _ (wk_turning k (xs (i + 1))))
      by_cases e24 : kk = 24
      · subst e24
        refine lv_tableIn (off := 922) (tgt := 954) hx hb d_law_32 (by rw [nI_toInt (by omega)]; omega) (by rw [nI_toInt (by omega)]; omega) (by rw [nI_toInt (by omega)]; rfl) (by decide) ?_
        exact lw_case (js := [1]) (stCommon ω (xs (i + 1))) X hl hX hbl hL hjs I (fun h w => sp_TV_common w k) (fun h w => sp_Mo_common w k) ll_114 ll_117 xmv_TV_common xmv_Mo_common (by decide) (by decide) lp_24 (by decide) (cont _ (wk_common k (xs (i + 1))))
      by_cases e25 : kk = 25
      · subst e25
        refine lv_tableIn (off := 945) (tgt := 977) hx hb d_law_32 (by rw [nI_toInt (by omega)]; omega) (by rw [nI_toInt (by omega)]; omega) (by rw [nI_toInt (by omega)]; rfl) (by decide) ?_
        exact lw_case (js := [1]) (stFollows ω (xs (i + 1))) X hl hX hbl hL hjs I (fun h w => sp_TV_follows w k) (fun h w => sp_Mo_follows w k) ll_118 ll_121 xmv_TV_follows xmv_Mo_follows (by decide) (by decide) lp_25 (by decide) (cont _ (wk_follows k (xs (i + 1))))
      by_cases e26 : kk = 26
      · subst e26
        refine lv_tableIn (off := 968) (tgt := 1000) hx hb d_law_32 (by rw [nI_toInt (by omega)]; omega) (by rw [nI_toInt (by omega)]; omega) (by rw [nI_toInt (by omega)]; rfl) (by decide) ?_
        exact lw_case (js := [1]) (stCost ω (xs (i + 1))) X hl hX hbl hL hjs I (fun h w => sp_TV_cost w k) (fun h w => sp_Mo_cost w k) ll_122 ll_125 xmv_TV_cost xmv_Mo_cost (by decide) (by decide) lp_26 (by decide) (cont _ (wk_cost k (xs (i + 1))))
      by_cases e27 : kk = 27
      · subst e27
        refine lv_tableIn (off := 991) (tgt := 1023) hx hb d_law_32 (by rw [nI_toInt (by omega)]; omega) (by rw [nI_toInt (by omega)]; omega) (by rw [nI_toInt (by omega)]; rfl) (by decide) ?_
        exact lw_case (js := [1]) (stMend ω (xs (i + 1))) X hl hX hbl hL hjs I (fun h w => sp_TV_mend w k) (fun h w => sp_Mo_mend w k) ll_126 ll_129 xmv_TV_mend xmv_Mo_mend (by decide) (by decide) lp_27 (by decide) (cont _ (wk_mend k (xs (i + 1))))
      by_cases e28 : kk = 28
      · subst e28
        refine lv_tableIn (off := 1014) (tgt := 1046) hx hb d_law_32 (by rw [nI_toInt (by omega)]; omega) (by rw [nI_toInt (by omega)]; omega) (by rw [nI_toInt (by omega)]; rfl) (by decide) ?_
        exact lw_case (js := [1]) (stBest ω (xs (i + 1))) X hl hX hbl hL hjs I (fun h w => sp_TV_best w k) (fun h w => sp_Mo_best w k) ll_130 ll_133 xmv_TV_best xmv_Mo_best (by decide) (by decide) lp_28 (by decide) (cont _ (wk_best k (xs (i + 1))))
      by_cases e29 : kk = 29
      · subst e29
        refine lv_tableIn (off := 1037) (tgt := 1069) hx hb d_law_32 (by rw [nI_toInt (by omega)]; omega) (by rw [nI_toInt (by omega)]; omega) (by rw [nI_toInt (by omega)]; rfl) (by decide) ?_
        exact lw_case (js := [1]) (stTail ω (xs (i + 1))) X hl hX hbl hL hjs I (fun h w => sp_TV_tail w k) (fun h w => sp_Mo_tail w k) ll_134 ll_137 xmv_TV_tail xmv_Mo_tail (by decide) (by decide) lp_29 (by decide) (cont _ (wk_tail k (xs (i + 1))))
      by_cases e30 : kk = 30
      · subst e30
        refine lv_tableIn (off := 1060) (tgt := 1092) hx hb d_law_32 (by rw [nI_toInt (by omega)]; omega) (by rw [nI_toInt (by omega)]; omega) (by rw [nI_toInt (by omega)]; rfl) (by decide) ?_
        exact lw_case (js := [1, 2]) (stTailWord ω (xs (i + 1)) (xs (i + 2))) X hl hX hbl hL hjs I (fun h w => sp_TV_tailWord w k) (fun h w => sp_Mo_tailWord w k) ll_138 ll_141 xmv_TV_tailWord xmv_Mo_tailWord (by decide) (by decide) lp_30 (by decide) (cont _ (wk_tailWord k (xs (i + 1)) (xs (i + 2))))
      by_cases e31 : kk = 31
      · subst e31
        refine lv_tableIn (off := 1093) (tgt := 1125) hx hb d_law_32 (by rw [nI_toInt (by omega)]; omega) (by rw [nI_toInt (by omega)]; omega) (by rw [nI_toInt (by omega)]; rfl) (by decide) ?_
        exact lw_case (js := [1]) (stScheme ω (xs (i + 1))) X hl hX hbl hL hjs I (fun h w => sp_TV_scheme w k) (fun h w => sp_Mo_scheme w k) ll_142 ll_145 xmv_TV_scheme xmv_Mo_scheme (by decide) (by decide) lp_31 (by decide) (cont _ (wk_scheme k (xs (i + 1))))
      by_cases e32 : kk = 32
      · subst e32
        refine lv_tableIn (off := 1116) (tgt := 1148) hx hb d_law_32 (by rw [nI_toInt (by omega)]; omega) (by rw [nI_toInt (by omega)]; omega) (by rw [nI_toInt (by omega)]; rfl) (by decide) ?_
        exact lw_case (js := [1, 2]) (stSchemes ω (xs (i + 1)) (xs (i + 2))) X hl hX hbl hL hjs I (fun h w => sp_TV_schemes w k) (fun h w => sp_Mo_schemes w k) ll_146 ll_149 xmv_TV_schemes xmv_Mo_schemes (by decide) (by decide) lp_32 (by decide) (cont _ (wk_schemes k (xs (i + 1)) (xs (i + 2))))
      by_cases e33 : kk = 33
      · subst e33
        refine lv_tableIn (off := 1149) (tgt := 1181) hx hb d_law_32 (by rw [nI_toInt (by omega)]; omega) (by rw [nI_toInt (by omega)]; omega) (by rw [nI_toInt (by omega)]; rfl) (by decide) ?_
        exact lw_case (js := [1]) (stCoupled ω (xs (i + 1))) X hl hX hbl hL hjs I (fun h w => sp_TV_coupled w k) (fun h w => sp_Mo_coupled w k) ll_150 ll_153 xmv_TV_coupled xmv_Mo_coupled (by decide) (by decide) lp_33 (by decide) (cont _ (wk_coupled k (xs (i + 1))))
      by_cases e34 : kk = 34
      · subst e34
        refine lv_tableIn (off := 1172) (tgt := 1204) hx hb d_law_32 (by rw [nI_toInt (by omega)]; omega) (by rw [nI_toInt (by omega)]; omega) (by rw [nI_toInt (by omega)]; rfl) (by decide) ?_
        exact lw_case (js := [1]) (stTold ω (xs (i + 1))) X hl hX hbl hL hjs I (fun h w => sp_TV_told w k) (fun h w => sp_Mo_told w k) ll_154 ll_157 xmv_TV_told xmv_Mo_told (by decide) (by decide) lp_34 (by decide) (cont _ (wk_told k (xs (i + 1))))
      by_cases e35 : kk = 35
      · subst e35
        refine lv_tableIn (off := 1195) (tgt := 1227) hx hb d_law_32 (by rw [nI_toInt (by omega)]; omega) (by rw [nI_toInt (by omega)]; omega) (by rw [nI_toInt (by omega)]; rfl) (by decide) ?_
        exact lw_case (js := []) (stUndo ω) X hl hX hbl hL hjs I (fun h w => sp_TV_undo w k) (fun h w => sp_Mo_undo w k) ll_158 ll_161 xmv_TV_undo xmv_Mo_undo (by decide) (by decide) lp_35 (by decide) (cont _ (wk_undo k))
      by_cases e36 : kk = 36
      · subst e36
        refine lv_tableIn (off := 1208) (tgt := 1240) hx hb d_law_32 (by rw [nI_toInt (by omega)]; omega) (by rw [nI_toInt (by omega)]; omega) (by rw [nI_toInt (by omega)]; rfl) (by decide) ?_
        exact case36
      refine lv_tableOut (tgt := 1254) hx hb d_law_32 (Or.inr (by rw [nI_toInt (by omega)]; omega)) (by decide) ?_
      exact cont ω k H locs I
theorem lw_kn {s : State} {args : Array Value} {k n : Nat} {q : vw_C} (hts : ∀ w ∈ lw_g, w.before args s = true) (hq : xcl[k]? = some q) (hi : (Cond.instantiable q.1 n).before args s = true) : ∃ (cC : ClassId) (iS : Nat → Nat), u_Kn s q.1 q.2.1 q.2.2 cC iS := by
  obtain ⟨C0, T, N⟩ := q
  obtain ⟨-, -, -, -, hin, -⟩ := xcl_in hq
  exact u_known hts hin hi
theorem lw_arr {s : State} {args : Array Value} {t : FieldType} (h : (Cond.arrayClass t).before args s = true) : ∃ cA : ClassId, ArrOfT s cA t ∧ s.vm.findClass ("[" ++ t.toString) = some cA := by
  obtain ⟨cA, kA, comp, h1, h2, h3⟩ := Cond.arrayClass_spec h
  exact ⟨cA, fun n z => ⟨fun k h => (by cases h), kA, h2, comp, h3⟩, h1⟩
theorem lw_arro {s : State} {args : Array Value} {C : String} (h : (Cond.arrayOver (.object C)).before args s = true) : ∃ cA : ClassId, ArrOfT s cA (.object C) ∧ va_RA s cA (.object C) := by
  obtain ⟨comp, cA, kA, h1, -, h2, h3, h4⟩ := Cond.arrayOver_spec h
  exact ⟨cA, fun n z => ⟨fun k h => (by cases h), kA, h2, comp, h3⟩, kA, comp, h2, h3, h1, h4⟩

