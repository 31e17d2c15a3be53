/-! CERTIFICATES: the methods do what their functions say: printed by a program of mine -/
set_option maxHeartbeats 4000000 in
set_option maxRecDepth 100000 in
theorem cC_readCopies_L2  {post : Int32 → Hp → Prop}  : ∀ (n : Nat) (x1_2 : Int32) (h2 : Hp), Sat post (fC_readCopies_L2 n x1_2 h2) → Ev mC_readCopies 2 2 [(0, .inr 5), (1, .inl x1_2)] [] h2 post := by
  intro n
  induction n with
  | zero =>
    intro x1_2 h2 hs
    exact False.elim hs
  | succ n ih =>
    intro x1_2 h2 hs
    refine ev_iload_n (pc := 2) dC_readCopies_2 1 rfl rfl ?_
    refine ev_aload_n (pc := 3) dC_readCopies_3 0 rfl rfl ?_
    refine ev_getR (pc := 4) dC_readCopies_4 lC_24 rfl rfl ?_
    refine ev_getI (pc := 7) dC_readCopies_7 lC_28 rfl rfl ?_
    refine ev_icmp_ge (pc := 10) (tgt := 65) dC_readCopies_10 (by decide) hs (fun hs => ?_) (fun hs => ?_)
    · exact ev_vret rfl dC_readCopies_65 hs
    · refine ev_aload_n (pc := 13) dC_readCopies_13 0 rfl rfl ?_
      refine ev_getR (pc := 14) dC_readCopies_14 lC_9 rfl rfl ?_
      refine ev_iload_n (pc := 17) dC_readCopies_17 1 rfl rfl ?_
      refine ev_aload_n (pc := 18) dC_readCopies_18 0 rfl rfl ?_
      refine ev_getR (pc := 19) dC_readCopies_19 lC_24 rfl rfl ?_
      refine ev_iload_n (pc := 22) dC_readCopies_22 1 rfl rfl ?_
      refine ev_bipush (pc := 23) (v := 8) dC_readCopies_23 (by decide) ?_
      refine ev_callV (pc := 25) (As := [.inl x1_2, .inl 8]) (S := [.inl x1_2, .inr 23]) (d2 := 0) dC_readCopies_25 vC_34 zT_copyFact rfl rfl rfl rfl (Nat.le_of_ble_eq_true rfl) (Nat.le_of_ble_eq_true rfl) rfl rfl (fun p1 hz => cT_copyFact hz) hs (fun r25 h25 hs => ?_)
      refine ev_iast (pc := 28) dC_readCopies_28 hs (fun h28 hs => ?_)
      refine ev_aload_n (pc := 29) dC_readCopies_29 0 rfl rfl ?_
      refine ev_getR (pc := 30) dC_readCopies_30 lC_15 rfl rfl ?_
      refine ev_iload_n (pc := 33) dC_readCopies_33 1 rfl rfl ?_
      refine ev_aload_n (pc := 34) dC_readCopies_34 0 rfl rfl ?_
      refine ev_getR (pc := 35) dC_readCopies_35 lC_24 rfl rfl ?_
      refine ev_iload_n (pc := 38) dC_readCopies_38 1 rfl rfl ?_
      refine ev_bipush (pc := 39) (v := 9) dC_readCopies_39 (by decide) ?_
      refine ev_callV (pc := 41) (As := [.inl x1_2, .inl 9]) (S := [.inl x1_2, .inr 24]) (d2 := 0) dC_readCopies_41 vC_34 zT_copyFact rfl rfl rfl rfl (Nat.le_of_ble_eq_true rfl) (Nat.le_of_ble_eq_true rfl) rfl rfl (fun p1 hz => cT_copyFact hz) hs (fun r41 h41 hs => ?_)
      refine ev_iast (pc := 44) dC_readCopies_44 hs (fun h44 hs => ?_)
      refine ev_aload_n (pc := 45) dC_readCopies_45 0 rfl rfl ?_
      refine ev_getR (pc := 46) dC_readCopies_46 lC_18 rfl rfl ?_
      refine ev_iload_n (pc := 49) dC_readCopies_49 1 rfl rfl ?_
      refine ev_aload_n (pc := 50) dC_readCopies_50 0 rfl rfl ?_
      refine ev_getR (pc := 51) dC_readCopies_51 lC_24 rfl rfl ?_
      refine ev_iload_n (pc := 54) dC_readCopies_54 1 rfl rfl ?_
      refine ev_callV (pc := 55) (As := [.inl x1_2]) (S := [.inl x1_2, .inr 25]) (d2 := 1) dC_readCopies_55 vC_38 zT_offsetOf rfl rfl rfl rfl (Nat.le_of_ble_eq_true rfl) (Nat.le_of_ble_eq_true rfl) rfl rfl (fun p1 hz => cT_offsetOf hz) hs (fun r55 h55 hs => ?_)
      refine ev_iast (pc := 58) dC_readCopies_58 hs (fun h58 hs => ?_)
      refine ev_iinc (pc := 59) (L' := [(0, .inr 5), (1, .inl (x1_2 + 1))]) (v := (x1_2 + 1)) dC_readCopies_59 1 rfl (congrArg (HAdd.hAdd _) (by decide)) rfl (Nat.le_of_ble_eq_true rfl) rfl ?_
      refine ev_goto (pc := 62) (tgt := 2) dC_readCopies_62 (by decide) ?_
      exact ih _ _ hs
set_option maxHeartbeats 4000000 in
set_option maxRecDepth 100000 in
theorem cC_readCopies {h0 : Hp}  {post : Int32 → Hp → Prop} (hs : Sat post (fC_readCopies h0 )) : Mt mC_readCopies 2 [.inr 5] h0 post := by
  refine mt_body (L := [(0, .inr 5)]) (by decide +kernel) (Nat.le_of_ble_eq_true rfl) rfl ?_
  refine ev_iconst (pc := 0) (v := 0) dC_readCopies_0 (by decide) ?_
  refine ev_istore_n (pc := 1) (L' := [(0, .inr 5), (1, .inl 0)]) dC_readCopies_1 rfl rfl (Nat.le_of_ble_eq_true rfl) rfl ?_
  exact cC_readCopies_L2  _ _ _ hs
set_option maxHeartbeats 4000000 in
set_option maxRecDepth 100000 in
theorem cC_rowOf {h0 : Hp} {x0 : Int32} {x1 : Int32} {x2 : Int32} {post : Int32 → Hp → Prop} (hs : Sat post (fC_rowOf h0 x0 x1 x2)) : Mt mC_rowOf 0 [.inl x0, .inl x1, .inl x2] h0 post := by
  refine mt_body (L := [(0, .inl x0), (1, .inl x1), (2, .inl x2)]) (by decide +kernel) (Nat.le_of_ble_eq_true rfl) rfl ?_
  refine ev_iload_n (pc := 0) dC_rowOf_0 0 rfl rfl ?_
  refine ev_iconst (pc := 1) (v := 5) dC_rowOf_1 (by decide) ?_
  refine ev_imul (pc := 2) dC_rowOf_2 ?_
  refine ev_iload_n (pc := 3) dC_rowOf_3 1 rfl rfl ?_
  refine ev_iadd (pc := 4) dC_rowOf_4 ?_
  refine ev_bipush (pc := 5) (v := 9) dC_rowOf_5 (by decide) ?_
  refine ev_imul (pc := 7) dC_rowOf_7 ?_
  refine ev_iload_n (pc := 8) dC_rowOf_8 2 rfl rfl ?_
  refine ev_iadd (pc := 9) dC_rowOf_9 ?_
  refine ev_bipush (pc := 10) (v := 9) dC_rowOf_10 (by decide) ?_
  refine ev_imul (pc := 12) dC_rowOf_12 ?_
  exact ev_iret rfl dC_rowOf_13 hs
set_option maxHeartbeats 4000000 in
set_option maxRecDepth 100000 in
theorem cC_clashOf_L58 {k132 : Int32 → Hp → RO} {x3 : Int32} {x4 : Int32} {x5 : Int32} {x6 : Int32} {x8 : Int32} {post : Int32 → Hp → Prop} (hk132 : ∀ (y7 : Int32) (h : Hp), Sat post (k132 y7 h) → Ev mC_clashOf 1 132 [(0, .inr 5), (3, .inl x3), (4, .inl x4), (5, .inl x5), (6, .inl x6), (7, .inl y7), (8, .inl x8)] [] h post) : ∀ (n : Nat) (x7_58 : Int32) (x9_58 : Int32) (h58 : Hp), Sat post (fC_clashOf_L58 k132 x3 x4 x5 x6 x8 n x7_58 x9_58 h58) → Ev mC_clashOf 1 58 [(0, .inr 5), (3, .inl x3), (4, .inl x4), (5, .inl x5), (6, .inl x6), (7, .inl x7_58), (8, .inl x8), (9, .inl x9_58)] [] h58 post := by
  intro n
  induction n with
  | zero =>
    intro x7_58 x9_58 h58 hs
    exact False.elim hs
  | succ n ih =>
    intro x7_58 x9_58 h58 hs
    refine ev_iload (pc := 58) dC_clashOf_58 7 rfl ?_
    refine ev_iload (pc := 60) dC_clashOf_60 4 rfl ?_
    refine ev_icmp_ge (pc := 62) (tgt := 132) dC_clashOf_62 (by decide) hs (fun hs => ?_) (fun hs => ?_)
    · refine ev_sub [(0, .inr 5), (3, .inl x3), (4, .inl x4), (5, .inl x5), (6, .inl x6), (7, .inl x7_58), (8, .inl x8)] [0, 1, 2, 3, 4, 5, 6] rfl ?_
      exact hk132 _ _ hs
    · refine ev_aload_n (pc := 65) dC_clashOf_65 0 rfl rfl ?_
      refine ev_getR (pc := 66) dC_clashOf_66 lC_18 rfl rfl ?_
      refine ev_iload (pc := 69) dC_clashOf_69 6 rfl ?_
      refine ev_iald (pc := 71) dC_clashOf_71 hs (fun r71 hs => ?_)
      refine ev_iload_n (pc := 72) dC_clashOf_72 1 rfl rfl ?_
      refine ev_iadd (pc := 73) dC_clashOf_73 ?_
      refine ev_aload_n (pc := 74) dC_clashOf_74 0 rfl rfl ?_
      refine ev_getR (pc := 75) dC_clashOf_75 lC_18 rfl rfl ?_
      refine ev_iload (pc := 78) dC_clashOf_78 7 rfl ?_
      refine ev_iald (pc := 80) dC_clashOf_80 hs (fun r80 hs => ?_)
      refine ev_jn (fun (j : Int32 → Hp → RO) => ∀ (x7_126 : Int32) (h126 : Hp), Sat post (j x7_126 h126) → Ev mC_clashOf 1 126 [(0, .inr 5), (3, .inl x3), (4, .inl x4), (5, .inl x5), (6, .inl x6), (7, .inl x7_126), (8, .inl x8), (9, .inl x9_58)] [] h126 post) hs (fun x7_126 h126 hs => ?_) (fun j126 hj126 hs => ?_)
      · refine ev_iinc (pc := 126) (L' := [(0, .inr 5), (3, .inl x3), (4, .inl x4), (5, .inl x5), (6, .inl x6), (7, .inl x7_126), (8, .inl x8), (9, .inl (x9_58 + 1))]) (v := (x9_58 + 1)) dC_clashOf_126 7 rfl (congrArg (HAdd.hAdd _) (by decide)) rfl (Nat.le_of_ble_eq_true rfl) rfl ?_
        refine ev_goto (pc := 129) (tgt := 58) dC_clashOf_129 (by decide) ?_
        exact ih _ _ _ hs
      refine ev_icmp_ne (pc := 81) (tgt := 126) dC_clashOf_81 (by decide) hs (fun hs => ?_) (fun hs => ?_)
      · exact hj126 _ _ hs
      · refine ev_iload (pc := 84) dC_clashOf_84 5 rfl ?_
        refine ev_aload_n (pc := 86) dC_clashOf_86 0 rfl rfl ?_
        refine ev_getR (pc := 87) dC_clashOf_87 lC_9 rfl rfl ?_
        refine ev_iload (pc := 90) dC_clashOf_90 6 rfl ?_
        refine ev_iald (pc := 92) dC_clashOf_92 hs (fun r92 hs => ?_)
        refine ev_aload_n (pc := 93) dC_clashOf_93 0 rfl rfl ?_
        refine ev_getR (pc := 94) dC_clashOf_94 lC_15 rfl rfl ?_
        refine ev_iload (pc := 97) dC_clashOf_97 7 rfl ?_
        refine ev_iald (pc := 99) dC_clashOf_99 hs (fun r99 hs => ?_)
        refine ev_iand (pc := 100) dC_clashOf_100 ?_
        refine ev_callS (pc := 101) (As := [.inl (r92 &&& r99)]) (S := [.inl x7_58]) (d2 := 0) dC_clashOf_101 (Or.inl vC_60) zJ_bitCount rfl (Nat.le_of_ble_eq_true rfl) (Nat.le_of_ble_eq_true rfl) rfl rfl (fun p1 hz => cJ_bitCount hz) hs (fun r101 h101 hs => ?_)
        refine ev_aload_n (pc := 104) dC_clashOf_104 0 rfl rfl ?_
        refine ev_getR (pc := 105) dC_clashOf_105 lC_15 rfl rfl ?_
        refine ev_iload (pc := 108) dC_clashOf_108 6 rfl ?_
        refine ev_iald (pc := 110) dC_clashOf_110 hs (fun r110 hs => ?_)
        refine ev_aload_n (pc := 111) dC_clashOf_111 0 rfl rfl ?_
        refine ev_getR (pc := 112) dC_clashOf_112 lC_9 rfl rfl ?_
        refine ev_iload (pc := 115) dC_clashOf_115 7 rfl ?_
        refine ev_iald (pc := 117) dC_clashOf_117 hs (fun r117 hs => ?_)
        refine ev_iand (pc := 118) dC_clashOf_118 ?_
        refine ev_callS (pc := 119) (As := [.inl (r110 &&& r117)]) (S := [.inl r101, .inl x7_58]) (d2 := 0) dC_clashOf_119 (Or.inl vC_60) zJ_bitCount rfl (Nat.le_of_ble_eq_true rfl) (Nat.le_of_ble_eq_true rfl) rfl rfl (fun p1 hz => cJ_bitCount hz) hs (fun r119 h119 hs => ?_)
        refine ev_iadd (pc := 122) dC_clashOf_122 ?_
        refine ev_iadd (pc := 123) dC_clashOf_123 ?_
        refine ev_bnd hs (fun v124 hs => ?_)
        refine ev_istore (pc := 124) (L' := [(0, .inr 5), (3, .inl x3), (4, .inl x4), (5, .inl x5), (6, .inl x6), (7, .inl v124), (8, .inl x8), (9, .inl x9_58)]) dC_clashOf_124 rfl (Nat.le_of_ble_eq_true rfl) rfl ?_
        exact hj126 _ _ hs
set_option maxHeartbeats 4000000 in
set_option maxRecDepth 100000 in
theorem cC_clashOf_L47 {x3 : Int32} {x4 : Int32} {x5 : Int32} {x6 : Int32} {post : Int32 → Hp → Prop}  : ∀ (n : Nat) (x7_47 : Int32) (x8_47 : Int32) (h47 : Hp), Sat post (fC_clashOf_L47 x3 x4 x5 x6 n x7_47 x8_47 h47) → Ev mC_clashOf 1 47 [(0, .inr 5), (3, .inl x3), (4, .inl x4), (5, .inl x5), (6, .inl x6), (7, .inl x7_47), (8, .inl x8_47)] [] h47 post := by
  intro n
  induction n with
  | zero =>
    intro x7_47 x8_47 h47 hs
    exact False.elim hs
  | succ n ih =>
    intro x7_47 x8_47 h47 hs
    refine ev_iload (pc := 47) dC_clashOf_47 6 rfl ?_
    refine ev_iload (pc := 49) dC_clashOf_49 2 rfl ?_
    refine ev_icmp_ge (pc := 51) (tgt := 138) dC_clashOf_51 (by decide) hs (fun hs => ?_) (fun hs => ?_)
    · refine ev_iload (pc := 138) dC_clashOf_138 5 rfl ?_
      exact ev_iret rfl dC_clashOf_140 hs
    · refine ev_iload (pc := 54) dC_clashOf_54 3 rfl ?_
      refine ev_istore (pc := 56) (L' := [(0, .inr 5), (3, .inl x3), (4, .inl x4), (5, .inl x5), (6, .inl x6), (7, .inl x7_47), (8, .inl x8_47), (9, .inl x5)]) dC_clashOf_56 rfl (Nat.le_of_ble_eq_true rfl) rfl ?_
      refine cC_clashOf_L58 (fun x7_132 h132 hs => ?_) _ _ _ _ hs
      refine ev_iinc (pc := 132) (L' := [(0, .inr 5), (3, .inl x3), (4, .inl x4), (5, .inl x5), (6, .inl x6), (7, .inl x7_132), (8, .inl (x8_47 + 1))]) (v := (x8_47 + 1)) dC_clashOf_132 6 rfl (congrArg (HAdd.hAdd _) (by decide)) rfl (Nat.le_of_ble_eq_true rfl) rfl ?_
      refine ev_goto (pc := 135) (tgt := 47) dC_clashOf_135 (by decide) ?_
      exact ih _ _ _ hs
set_option maxHeartbeats 4000000 in
set_option maxRecDepth 100000 in
theorem cC_clashOf {h0 : Hp} {x1 : Int32} {x2 : Int32} {x3 : Int32} {post : Int32 → Hp → Prop} (hs : Sat post (fC_clashOf h0 x1 x2 x3)) : Mt mC_clashOf 1 [.inr 5, .inl x1, .inl x2, .inl x3] h0 post := by
  refine mt_body (L := [(0, .inr 5), (1, .inl x1), (2, .inl x2), (3, .inl x3)]) (by decide +kernel) (Nat.le_of_ble_eq_true rfl) rfl ?_
  refine ev_aload_n (pc := 0) dC_clashOf_0 0 rfl rfl ?_
  refine ev_getR (pc := 1) dC_clashOf_1 lC_24 rfl rfl ?_
  refine ev_iload_n (pc := 4) dC_clashOf_4 1 rfl rfl ?_
  refine ev_iconst (pc := 5) (v := 4) dC_clashOf_5 (by decide) ?_
  refine ev_callV (pc := 6) (As := [.inl x1, .inl 4]) (S := []) (d2 := 0) dC_clashOf_6 vC_57 zT_pieceFact rfl rfl rfl rfl (Nat.le_of_ble_eq_true rfl) (Nat.le_of_ble_eq_true rfl) rfl rfl (fun p1 hz => cT_pieceFact hz) hs (fun r6 h6 hs => ?_)
  refine ev_istore (pc := 9) (L' := [(0, .inr 5), (1, .inl x1), (2, .inl x2), (3, .inl x3), (4, .inl r6)]) dC_clashOf_9 rfl (Nat.le_of_ble_eq_true rfl) rfl ?_
  refine ev_aload_n (pc := 11) dC_clashOf_11 0 rfl rfl ?_
  refine ev_getR (pc := 12) dC_clashOf_12 lC_24 rfl rfl ?_
  refine ev_iload_n (pc := 15) dC_clashOf_15 2 rfl rfl ?_
  refine ev_iconst (pc := 16) (v := 3) dC_clashOf_16 (by decide) ?_
  refine ev_callV (pc := 17) (As := [.inl x2, .inl 3]) (S := []) (d2 := 0) dC_clashOf_17 vC_57 zT_pieceFact rfl rfl rfl rfl (Nat.le_of_ble_eq_true rfl) (Nat.le_of_ble_eq_true rfl) rfl rfl (fun p1 hz => cT_pieceFact hz) hs (fun r17 h17 hs => ?_)
  refine ev_istore (pc := 20) (L' := [(0, .inr 5), (1, .inl x1), (2, .inl x2), (3, .inl x3), (4, .inl r6), (5, .inl r17)]) dC_clashOf_20 rfl (Nat.le_of_ble_eq_true rfl) rfl ?_
  refine ev_aload_n (pc := 22) dC_clashOf_22 0 rfl rfl ?_
  refine ev_getR (pc := 23) dC_clashOf_23 lC_24 rfl rfl ?_
  refine ev_iload_n (pc := 26) dC_clashOf_26 2 rfl rfl ?_
  refine ev_iconst (pc := 27) (v := 4) dC_clashOf_27 (by decide) ?_
  refine ev_callV (pc := 28) (As := [.inl x2, .inl 4]) (S := []) (d2 := 0) dC_clashOf_28 vC_57 zT_pieceFact rfl rfl rfl rfl (Nat.le_of_ble_eq_true rfl) (Nat.le_of_ble_eq_true rfl) rfl rfl (fun p1 hz => cT_pieceFact hz) hs (fun r28 h28 hs => ?_)
  refine ev_istore (pc := 31) (L' := [(0, .inr 5), (1, .inl x1), (2, .inl x2), (3, .inl x3), (4, .inl r6), (5, .inl r17), (6, .inl r28)]) dC_clashOf_31 rfl (Nat.le_of_ble_eq_true rfl) rfl ?_
  refine ev_iconst (pc := 33) (v := 0) dC_clashOf_33 (by decide) ?_
  refine ev_istore (pc := 34) (L' := [(0, .inr 5), (1, .inl x1), (2, .inl x2), (3, .inl x3), (4, .inl r6), (5, .inl r17), (6, .inl r28), (7, .inl 0)]) dC_clashOf_34 rfl (Nat.le_of_ble_eq_true rfl) rfl ?_
  refine ev_aload_n (pc := 36) dC_clashOf_36 0 rfl rfl ?_
  refine ev_getR (pc := 37) dC_clashOf_37 lC_24 rfl rfl ?_
  refine ev_iload_n (pc := 40) dC_clashOf_40 1 rfl rfl ?_
  refine ev_iconst (pc := 41) (v := 3) dC_clashOf_41 (by decide) ?_
  refine ev_callV (pc := 42) (As := [.inl x1, .inl 3]) (S := []) (d2 := 0) dC_clashOf_42 vC_57 zT_pieceFact rfl rfl rfl rfl (Nat.le_of_ble_eq_true rfl) (Nat.le_of_ble_eq_true rfl) rfl rfl (fun p1 hz => cT_pieceFact hz) hs (fun r42 h42 hs => ?_)
  refine ev_istore (pc := 45) (L' := [(0, .inr 5), (1, .inl x1), (2, .inl x2), (3, .inl x3), (4, .inl r6), (5, .inl r17), (6, .inl r28), (7, .inl 0), (8, .inl r42)]) dC_clashOf_45 rfl (Nat.le_of_ble_eq_true rfl) rfl ?_
  refine ev_sub [(0, .inr 5), (3, .inl x3), (4, .inl r6), (5, .inl r17), (6, .inl r28), (7, .inl 0), (8, .inl r42)] [0, 3, 4, 5, 6, 7, 8] rfl ?_
  exact cC_clashOf_L47  _ _ _ _ hs
set_option maxHeartbeats 4000000 in
set_option maxRecDepth 100000 in
theorem cC_reckon_L34 {k110 : Int32 → Hp → RO} {x1 : Int32} {x2 : Int32} {x3 : Int32} {x4 : Int32} {x6 : Int32} {x7 : Int32} {x8 : Int32} {post : Int32 → Hp → Prop} (hk110 : ∀ (y5 : Int32) (h : Hp), Sat post (k110 y5 h) → Ev mC_reckon 2 110 [(0, .inr 5), (1, .inl x1), (2, .inl x2), (3, .inl x3), (4, .inl x4), (5, .inl y5), (6, .inl x6), (7, .inl x7)] [] h post) : ∀ (n : Nat) (x5_34 : Int32) (x9_34 : Int32) (h34 : Hp), Sat post (fC_reckon_L34 k110 x1 x2 x3 x4 x6 x7 x8 n x5_34 x9_34 h34) → Ev mC_reckon 2 34 [(0, .inr 5), (1, .inl x1), (2, .inl x2), (3, .inl x3), (4, .inl x4), (5, .inl x5_34), (6, .inl x6), (7, .inl x7), (8, .inl x8), (9, .inl x9_34)] [] h34 post := by
  intro n
  induction n with
  | zero =>
    intro x5_34 x9_34 h34 hs
    exact False.elim hs
  | succ n ih =>
    intro x5_34 x9_34 h34 hs
    refine ev_iload (pc := 34) dC_reckon_34 9 rfl ?_
    refine ev_iload (pc := 36) dC_reckon_36 6 rfl ?_
    refine ev_icmp_ge (pc := 38) (tgt := 110) dC_reckon_38 (by decide) hs (fun hs => ?_) (fun hs => ?_)
    · refine ev_sub [(0, .inr 5), (1, .inl x1), (2, .inl x2), (3, .inl x3), (4, .inl x4), (5, .inl x5_34), (6, .inl x6), (7, .inl x7)] [0, 1, 2, 3, 4, 5, 6, 7] rfl ?_
      exact hk110 _ _ hs
    · refine ev_iload_n (pc := 41) dC_reckon_41 3 rfl rfl ?_
      refine ev_iload (pc := 42) dC_reckon_42 7 rfl ?_
      refine ev_callS (pc := 44) (As := [.inl x3, .inl x7]) (S := []) (d2 := 0) dC_reckon_44 (Or.inr vC_50) zX_isIn rfl (Nat.le_of_ble_eq_true rfl) (Nat.le_of_ble_eq_true rfl) rfl rfl (fun p1 hz => cX_isIn hz) hs (fun r44 h44 hs => ?_)
      refine ev_jn (fun (j : Int32 → Hp → RO) => ∀ (x5_104 : Int32) (h104 : Hp), Sat post (j x5_104 h104) → Ev mC_reckon 2 104 [(0, .inr 5), (1, .inl x1), (2, .inl x2), (3, .inl x3), (4, .inl x4), (5, .inl x5_104), (6, .inl x6), (7, .inl x7), (8, .inl x8), (9, .inl x9_34)] [] h104 post) hs (fun x5_104 h104 hs => ?_) (fun j104 hj104 hs => ?_)
      · refine ev_iinc (pc := 104) (L' := [(0, .inr 5), (1, .inl x1), (2, .inl x2), (3, .inl x3), (4, .inl x4), (5, .inl x5_104), (6, .inl x6), (7, .inl x7), (8, .inl x8), (9, .inl (x9_34 + 1))]) (v := (x9_34 + 1)) dC_reckon_104 9 rfl (congrArg (HAdd.hAdd _) (by decide)) rfl (Nat.le_of_ble_eq_true rfl) rfl ?_
        refine ev_goto (pc := 107) (tgt := 34) dC_reckon_107 (by decide) ?_
        exact ih _ _ _ hs
      refine ev_if_eq (pc := 47) (tgt := 104) dC_reckon_47 (by decide) hs (fun hs => ?_) (fun hs => ?_)
      · exact hj104 _ _ hs
      · refine ev_iload (pc := 50) dC_reckon_50 4 rfl ?_
        refine ev_iload (pc := 52) dC_reckon_52 9 rfl ?_
        refine ev_callS (pc := 54) (As := [.inl x4, .inl x9_34]) (S := []) (d2 := 0) dC_reckon_54 (Or.inr vC_50) zX_isIn rfl (Nat.le_of_ble_eq_true rfl) (Nat.le_of_ble_eq_true rfl) rfl rfl (fun p1 hz => cX_isIn hz) hs (fun r54 h54 hs => ?_)
        refine ev_if_eq (pc := 57) (tgt := 104) dC_reckon_57 (by decide) hs (fun hs => ?_) (fun hs => ?_)
        · exact hj104 _ _ hs
        · refine ev_aload_n (pc := 60) dC_reckon_60 0 rfl rfl ?_
          refine ev_getR (pc := 61) dC_reckon_61 lC_21 rfl rfl ?_
          refine ev_iload (pc := 64) dC_reckon_64 8 rfl ?_
          refine ev_iload (pc := 66) dC_reckon_66 9 rfl ?_
          refine ev_iadd (pc := 68) dC_reckon_68 ?_
          refine ev_aload_n (pc := 69) dC_reckon_69 0 rfl rfl ?_
          refine ev_iload_n (pc := 70) dC_reckon_70 1 rfl rfl ?_
          refine ev_iload_n (pc := 71) dC_reckon_71 2 rfl rfl ?_
          refine ev_iload (pc := 72) dC_reckon_72 7 rfl ?_
          refine ev_iload (pc := 74) dC_reckon_74 9 rfl ?_
          refine ev_isub (pc := 76) dC_reckon_76 ?_
          refine ev_callV (pc := 77) (As := [.inl x1, .inl x2, .inl (x7 - x9_34)]) (S := [.inl (x8 + x9_34), .inr 26]) (d2 := 1) dC_reckon_77 vC_54 zC_clashOf rfl rfl rfl rfl (Nat.le_of_ble_eq_true rfl) (Nat.le_of_ble_eq_true rfl) rfl rfl (fun p1 hz => cC_clashOf hz) hs (fun r77 h77 hs => ?_)
          refine ev_iast (pc := 80) dC_reckon_80 hs (fun h80 hs => ?_)
          refine ev_iload (pc := 81) dC_reckon_81 5 rfl ?_
          refine ev_aload_n (pc := 83) dC_reckon_83 0 rfl rfl ?_
          refine ev_getR (pc := 84) dC_reckon_84 lC_21 rfl rfl ?_
          refine ev_iload (pc := 87) dC_reckon_87 8 rfl ?_
          refine ev_iload (pc := 89) dC_reckon_89 9 rfl ?_
          refine ev_iadd (pc := 91) dC_reckon_91 ?_
          refine ev_iald (pc := 92) dC_reckon_92 hs (fun r92 hs => ?_)
          refine ev_jn (fun (j : Int32 → Hp → RO) => ∀ (s101 : Int32) (h101 : Hp), Sat post (j s101 h101) → Ev mC_reckon 2 101 [(0, .inr 5), (1, .inl x1), (2, .inl x2), (3, .inl x3), (4, .inl x4), (6, .inl x6), (7, .inl x7), (8, .inl x8), (9, .inl x9_34)] [.inl s101, .inl x5_34] h101 post) hs (fun s101 h101 hs => ?_) (fun j101 hj101 hs => ?_)
          · refine ev_ior (pc := 101) dC_reckon_101 ?_
            refine ev_bnd hs (fun v102 hs => ?_)
            refine ev_istore (pc := 102) (L' := [(0, .inr 5), (1, .inl x1), (2, .inl x2), (3, .inl x3), (4, .inl x4), (5, .inl v102), (6, .inl x6), (7, .inl x7), (8, .inl x8), (9, .inl x9_34)]) dC_reckon_102 rfl (Nat.le_of_ble_eq_true rfl) rfl ?_
            exact hj104 _ _ hs
          refine ev_if_le (pc := 93) (tgt := 100) dC_reckon_93 (by decide) hs (fun hs => ?_) (fun hs => ?_)
          · refine ev_iconst (pc := 100) (v := 0) dC_reckon_100 (by decide) ?_
            refine ev_sub [(0, .inr 5), (1, .inl x1), (2, .inl x2), (3, .inl x3), (4, .inl x4), (6, .inl x6), (7, .inl x7), (8, .inl x8), (9, .inl x9_34)] [0, 1, 2, 3, 4, 6, 7, 8, 9] rfl ?_
            exact hj101 _ _ hs
          · refine ev_iconst (pc := 96) (v := 1) dC_reckon_96 (by decide) ?_
            refine ev_goto (pc := 97) (tgt := 101) dC_reckon_97 (by decide) ?_
            refine ev_sub [(0, .inr 5), (1, .inl x1), (2, .inl x2), (3, .inl x3), (4, .inl x4), (6, .inl x6), (7, .inl x7), (8, .inl x8), (9, .inl x9_34)] [0, 1, 2, 3, 4, 6, 7, 8, 9] rfl ?_
            exact hj101 _ _ hs
set_option maxHeartbeats 4000000 in
set_option maxRecDepth 100000 in
theorem cC_reckon_L15 {x1 : Int32} {x2 : Int32} {x3 : Int32} {x4 : Int32} {x6 : Int32} {post : Int32 → Hp → Prop}  : ∀ (n : Nat) (x5_15 : Int32) (x7_15 : Int32) (h15 : Hp), Sat post (fC_reckon_L15 x1 x2 x3 x4 x6 n x5_15 x7_15 h15) → Ev mC_reckon 2 15 [(0, .inr 5), (1, .inl x1), (2, .inl x2), (3, .inl x3), (4, .inl x4), (5, .inl x5_15), (6, .inl x6), (7, .inl x7_15)] [] h15 post := by
  intro n
  induction n with
  | zero =>
    intro x5_15 x7_15 h15 hs
    exact False.elim hs
  | succ n ih =>
    intro x5_15 x7_15 h15 hs
    refine ev_iload (pc := 15) dC_reckon_15 7 rfl ?_
    refine ev_iload (pc := 17) dC_reckon_17 6 rfl ?_
    refine ev_icmp_ge (pc := 19) (tgt := 116) dC_reckon_19 (by decide) hs (fun hs => ?_) (fun hs => ?_)
    · refine ev_iload (pc := 116) dC_reckon_116 5 rfl ?_
      exact ev_zret rfl dC_reckon_118 hs
    · refine ev_iload_n (pc := 22) dC_reckon_22 1 rfl rfl ?_
      refine ev_iload_n (pc := 23) dC_reckon_23 2 rfl rfl ?_
      refine ev_iload (pc := 24) dC_reckon_24 7 rfl ?_
      refine ev_callS (pc := 26) (As := [.inl x1, .inl x2, .inl x7_15]) (S := []) (d2 := 0) dC_reckon_26 (Or.inl vC_46) zC_rowOf rfl (Nat.le_of_ble_eq_true rfl) (Nat.le_of_ble_eq_true rfl) rfl rfl (fun p1 hz => cC_rowOf hz) hs (fun r26 h26 hs => ?_)
      refine ev_istore (pc := 29) (L' := [(0, .inr 5), (1, .inl x1), (2, .inl x2), (3, .inl x3), (4, .inl x4), (5, .inl x5_15), (6, .inl x6), (7, .inl x7_15), (8, .inl r26)]) dC_reckon_29 rfl (Nat.le_of_ble_eq_true rfl) rfl ?_
      refine ev_iconst (pc := 31) (v := 0) dC_reckon_31 (by decide) ?_
      refine ev_istore (pc := 32) (L' := [(0, .inr 5), (1, .inl x1), (2, .inl x2), (3, .inl x3), (4, .inl x4), (5, .inl x5_15), (6, .inl x6), (7, .inl x7_15), (8, .inl r26), (9, .inl 0)]) dC_reckon_32 rfl (Nat.le_of_ble_eq_true rfl) rfl ?_
      refine cC_reckon_L34 (fun x5_110 h110 hs => ?_) _ _ _ _ hs
      refine ev_iinc (pc := 110) (L' := [(0, .inr 5), (1, .inl x1), (2, .inl x2), (3, .inl x3), (4, .inl x4), (5, .inl x5_110), (6, .inl x6), (7, .inl (x7_15 + 1))]) (v := (x7_15 + 1)) dC_reckon_110 7 rfl (congrArg (HAdd.hAdd _) (by decide)) rfl (Nat.le_of_ble_eq_true rfl) rfl ?_
      refine ev_goto (pc := 113) (tgt := 15) dC_reckon_113 (by decide) ?_
      exact ih _ _ _ hs
set_option maxHeartbeats 4000000 in
set_option maxRecDepth 100000 in
theorem cC_reckon {h0 : Hp} {x1 : Int32} {x2 : Int32} {x3 : Int32} {x4 : Int32} {post : Int32 → Hp → Prop} (hs : Sat post (fC_reckon h0 x1 x2 x3 x4)) : Mt mC_reckon 2 [.inr 5, .inl x1, .inl x2, .inl x3, .inl x4] h0 post := by
  refine mt_body (L := [(0, .inr 5), (1, .inl x1), (2, .inl x2), (3, .inl x3), (4, .inl x4)]) (by decide +kernel) (Nat.le_of_ble_eq_true rfl) rfl ?_
  refine ev_iconst (pc := 0) (v := 0) dC_reckon_0 (by decide) ?_
  refine ev_istore (pc := 1) (L' := [(0, .inr 5), (1, .inl x1), (2, .inl x2), (3, .inl x3), (4, .inl x4), (5, .inl 0)]) dC_reckon_1 rfl (Nat.le_of_ble_eq_true rfl) rfl ?_
  refine ev_aload_n (pc := 3) dC_reckon_3 0 rfl rfl ?_
  refine ev_getR (pc := 4) dC_reckon_4 lC_24 rfl rfl ?_
  refine ev_callV (pc := 7) (As := []) (S := []) (d2 := 0) dC_reckon_7 vC_42 zT_places rfl rfl rfl rfl (Nat.le_of_ble_eq_true rfl) (Nat.le_of_ble_eq_true rfl) rfl rfl (fun p1 hz => cT_places hz) hs (fun r7 h7 hs => ?_)
  refine ev_istore (pc := 10) (L' := [(0, .inr 5), (1, .inl x1), (2, .inl x2), (3, .inl x3), (4, .inl x4), (5, .inl 0), (6, .inl r7)]) dC_reckon_10 rfl (Nat.le_of_ble_eq_true rfl) rfl ?_
  refine ev_iconst (pc := 12) (v := 0) dC_reckon_12 (by decide) ?_
  refine ev_istore (pc := 13) (L' := [(0, .inr 5), (1, .inl x1), (2, .inl x2), (3, .inl x3), (4, .inl x4), (5, .inl 0), (6, .inl r7), (7, .inl 0)]) dC_reckon_13 rfl (Nat.le_of_ble_eq_true rfl) rfl ?_
  exact cC_reckon_L15  _ _ _ _ hs
