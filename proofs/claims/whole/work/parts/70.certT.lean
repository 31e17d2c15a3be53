/-! CERTIFICATES: the methods do what their functions say: printed by a program of mine -/
set_option maxHeartbeats 4000000 in
set_option maxRecDepth 100000 in
theorem cX_isWithin {h0 : Hp} {x0 : Int32} {x1 : Int32} {x2 : Int32} {post : Int32 → Hp → Prop} (hs : Sat post (fX_isWithin h0 x0 x1 x2)) : Mt mX_isWithin 0 [.inl x0, .inl x1, .inl x2] h0 post := by
  refine mt_body (L := [(0, .inl x0), (1, .inl x1), (2, .inl x2)]) (by decide +kernel) (Nat.le_of_ble_eq_true rfl) rfl ?_
  refine ev_iload_n (pc := 0) dX_isWithin_0 0 rfl rfl ?_
  refine ev_iload_n (pc := 1) dX_isWithin_1 1 rfl rfl ?_
  refine ev_icmp_lt (pc := 2) (tgt := 14) dX_isWithin_2 (by decide) hs (fun hs => ?_) (fun hs => ?_)
  · refine ev_iconst (pc := 14) (v := 0) dX_isWithin_14 (by decide) ?_
    exact ev_zret rfl dX_isWithin_15 hs
  · refine ev_iload_n (pc := 5) dX_isWithin_5 0 rfl rfl ?_
    refine ev_iload_n (pc := 6) dX_isWithin_6 2 rfl rfl ?_
    refine ev_icmp_gt (pc := 7) (tgt := 14) dX_isWithin_7 (by decide) hs (fun hs => ?_) (fun hs => ?_)
    · refine ev_iconst (pc := 14) (v := 0) dX_isWithin_14 (by decide) ?_
      exact ev_zret rfl dX_isWithin_15 hs
    · refine ev_iconst (pc := 10) (v := 1) dX_isWithin_10 (by decide) ?_
      refine ev_goto (pc := 11) (tgt := 15) dX_isWithin_11 (by decide) ?_
      exact ev_zret rfl dX_isWithin_15 hs
set_option maxHeartbeats 4000000 in
set_option maxRecDepth 100000 in
theorem cT_startSheet {h0 : Hp} {x1 : Int32} {x2 : Int32} {post : Int32 → Hp → Prop} (hs : Sat post (fT_startSheet h0 x1 x2)) : Mt mT_startSheet 0 [.inr 1, .inl x1, .inl x2] h0 post := by
  refine mt_body (L := [(0, .inr 1), (1, .inl x1), (2, .inl x2)]) (by decide +kernel) (Nat.le_of_ble_eq_true rfl) rfl ?_
  refine ev_aload_n (pc := 0) dT_startSheet_0 0 rfl rfl ?_
  refine ev_iload_n (pc := 1) dT_startSheet_1 1 rfl rfl ?_
  refine ev_putI (pc := 2) dT_startSheet_2 lT_9 w2_0 rfl rfl hs (fun h2 hs => ?_)
  refine ev_aload_n (pc := 5) dT_startSheet_5 0 rfl rfl ?_
  refine ev_iload_n (pc := 6) dT_startSheet_6 2 rfl rfl ?_
  refine ev_putI (pc := 7) dT_startSheet_7 lT_15 w2_1 rfl rfl hs (fun h7 hs => ?_)
  refine ev_aload_n (pc := 10) dT_startSheet_10 0 rfl rfl ?_
  refine ev_iconst (pc := 11) (v := 0) dT_startSheet_11 (by decide) ?_
  refine ev_putI (pc := 12) dT_startSheet_12 lT_18 w2_2 rfl rfl hs (fun h12 hs => ?_)
  refine ev_aload_n (pc := 15) dT_startSheet_15 0 rfl rfl ?_
  refine ev_iconst (pc := 16) (v := 0) dT_startSheet_16 (by decide) ?_
  refine ev_putI (pc := 17) dT_startSheet_17 lT_21 w2_3 rfl rfl hs (fun h17 hs => ?_)
  exact ev_vret rfl dT_startSheet_20 hs
set_option maxHeartbeats 4000000 in
set_option maxRecDepth 100000 in
theorem cT_places {h0 : Hp}  {post : Int32 → Hp → Prop} (hs : Sat post (fT_places h0 )) : Mt mT_places 0 [.inr 1] h0 post := by
  refine mt_body (L := [(0, .inr 1)]) (by decide +kernel) (Nat.le_of_ble_eq_true rfl) rfl ?_
  refine ev_aload_n (pc := 0) dT_places_0 0 rfl rfl ?_
  refine ev_getI (pc := 1) dT_places_1 lT_9 rfl rfl ?_
  refine ev_aload_n (pc := 4) dT_places_4 0 rfl rfl ?_
  refine ev_getI (pc := 5) dT_places_5 lT_15 rfl rfl ?_
  refine ev_imul (pc := 8) dT_places_8 ?_
  exact ev_iret rfl dT_places_9 hs
set_option maxHeartbeats 4000000 in
set_option maxRecDepth 100000 in
theorem cT_addCopy {h0 : Hp} {x1 : Int32} {x2 : Int32} {x3 : Int32} {post : Int32 → Hp → Prop} (hs : Sat post (fT_addCopy h0 x1 x2 x3)) : Mt mT_addCopy 0 [.inr 1, .inl x1, .inl x2, .inl x3] h0 post := by
  refine mt_body (L := [(0, .inr 1), (1, .inl x1), (2, .inl x2), (3, .inl x3)]) (by decide +kernel) (Nat.le_of_ble_eq_true rfl) rfl ?_
  refine ev_aload_n (pc := 0) dT_addCopy_0 0 rfl rfl ?_
  refine ev_getI (pc := 1) dT_addCopy_1 lT_21 rfl rfl ?_
  refine ev_bipush (pc := 4) (v := 10) dT_addCopy_4 (by decide) ?_
  refine ev_imul (pc := 6) dT_addCopy_6 ?_
  refine ev_bnd hs (fun v7 hs => ?_)
  refine ev_istore (pc := 7) (L' := [(0, .inr 1), (1, .inl x1), (2, .inl x2), (3, .inl x3), (4, .inl v7)]) dT_addCopy_7 rfl (Nat.le_of_ble_eq_true rfl) rfl ?_
  refine ev_aload_n (pc := 9) dT_addCopy_9 0 rfl rfl ?_
  refine ev_getR (pc := 10) dT_addCopy_10 lT_31 rfl rfl ?_
  refine ev_iload (pc := 13) dT_addCopy_13 4 rfl ?_
  refine ev_iconst (pc := 15) (v := 0) dT_addCopy_15 (by decide) ?_
  refine ev_iadd (pc := 16) dT_addCopy_16 ?_
  refine ev_iload_n (pc := 17) dT_addCopy_17 1 rfl rfl ?_
  refine ev_iast (pc := 18) dT_addCopy_18 hs (fun h18 hs => ?_)
  refine ev_aload_n (pc := 19) dT_addCopy_19 0 rfl rfl ?_
  refine ev_getR (pc := 20) dT_addCopy_20 lT_31 rfl rfl ?_
  refine ev_iload (pc := 23) dT_addCopy_23 4 rfl ?_
  refine ev_iconst (pc := 25) (v := 1) dT_addCopy_25 (by decide) ?_
  refine ev_iadd (pc := 26) dT_addCopy_26 ?_
  refine ev_iload_n (pc := 27) dT_addCopy_27 2 rfl rfl ?_
  refine ev_iast (pc := 28) dT_addCopy_28 hs (fun h28 hs => ?_)
  refine ev_aload_n (pc := 29) dT_addCopy_29 0 rfl rfl ?_
  refine ev_getR (pc := 30) dT_addCopy_30 lT_31 rfl rfl ?_
  refine ev_iload (pc := 33) dT_addCopy_33 4 rfl ?_
  refine ev_iconst (pc := 35) (v := 2) dT_addCopy_35 (by decide) ?_
  refine ev_iadd (pc := 36) dT_addCopy_36 ?_
  refine ev_iload_n (pc := 37) dT_addCopy_37 3 rfl rfl ?_
  refine ev_iast (pc := 38) dT_addCopy_38 hs (fun h38 hs => ?_)
  refine ev_aload_n (pc := 39) dT_addCopy_39 0 rfl rfl ?_
  refine ev_getR (pc := 40) dT_addCopy_40 lT_31 rfl rfl ?_
  refine ev_iload (pc := 43) dT_addCopy_43 4 rfl ?_
  refine ev_iconst (pc := 45) (v := 3) dT_addCopy_45 (by decide) ?_
  refine ev_iadd (pc := 46) dT_addCopy_46 ?_
  refine ev_iconst (pc := 47) (v := (-1)) dT_addCopy_47 (by decide) ?_
  refine ev_iast (pc := 48) dT_addCopy_48 hs (fun h48 hs => ?_)
  refine ev_aload_n (pc := 49) dT_addCopy_49 0 rfl rfl ?_
  refine ev_getR (pc := 50) dT_addCopy_50 lT_31 rfl rfl ?_
  refine ev_iload (pc := 53) dT_addCopy_53 4 rfl ?_
  refine ev_iconst (pc := 55) (v := 4) dT_addCopy_55 (by decide) ?_
  refine ev_iadd (pc := 56) dT_addCopy_56 ?_
  refine ev_iconst (pc := 57) (v := (-1)) dT_addCopy_57 (by decide) ?_
  refine ev_iast (pc := 58) dT_addCopy_58 hs (fun h58 hs => ?_)
  refine ev_aload_n (pc := 59) dT_addCopy_59 0 rfl rfl ?_
  refine ev_getR (pc := 60) dT_addCopy_60 lT_31 rfl rfl ?_
  refine ev_iload (pc := 63) dT_addCopy_63 4 rfl ?_
  refine ev_iconst (pc := 65) (v := 5) dT_addCopy_65 (by decide) ?_
  refine ev_iadd (pc := 66) dT_addCopy_66 ?_
  refine ev_iconst (pc := 67) (v := 0) dT_addCopy_67 (by decide) ?_
  refine ev_iast (pc := 68) dT_addCopy_68 hs (fun h68 hs => ?_)
  refine ev_aload_n (pc := 69) dT_addCopy_69 0 rfl rfl ?_
  refine ev_getR (pc := 70) dT_addCopy_70 lT_31 rfl rfl ?_
  refine ev_iload (pc := 73) dT_addCopy_73 4 rfl ?_
  refine ev_bipush (pc := 75) (v := 6) dT_addCopy_75 (by decide) ?_
  refine ev_iadd (pc := 77) dT_addCopy_77 ?_
  refine ev_iconst (pc := 78) (v := (-1)) dT_addCopy_78 (by decide) ?_
  refine ev_iast (pc := 79) dT_addCopy_79 hs (fun h79 hs => ?_)
  refine ev_aload_n (pc := 80) dT_addCopy_80 0 rfl rfl ?_
  refine ev_getR (pc := 81) dT_addCopy_81 lT_31 rfl rfl ?_
  refine ev_iload (pc := 84) dT_addCopy_84 4 rfl ?_
  refine ev_bipush (pc := 86) (v := 7) dT_addCopy_86 (by decide) ?_
  refine ev_iadd (pc := 88) dT_addCopy_88 ?_
  refine ev_iconst (pc := 89) (v := 0) dT_addCopy_89 (by decide) ?_
  refine ev_iast (pc := 90) dT_addCopy_90 hs (fun h90 hs => ?_)
  refine ev_aload_n (pc := 91) dT_addCopy_91 0 rfl rfl ?_
  refine ev_getR (pc := 92) dT_addCopy_92 lT_31 rfl rfl ?_
  refine ev_iload (pc := 95) dT_addCopy_95 4 rfl ?_
  refine ev_bipush (pc := 97) (v := 8) dT_addCopy_97 (by decide) ?_
  refine ev_iadd (pc := 99) dT_addCopy_99 ?_
  refine ev_iconst (pc := 100) (v := 0) dT_addCopy_100 (by decide) ?_
  refine ev_iast (pc := 101) dT_addCopy_101 hs (fun h101 hs => ?_)
  refine ev_aload_n (pc := 102) dT_addCopy_102 0 rfl rfl ?_
  refine ev_getR (pc := 103) dT_addCopy_103 lT_31 rfl rfl ?_
  refine ev_iload (pc := 106) dT_addCopy_106 4 rfl ?_
  refine ev_bipush (pc := 108) (v := 9) dT_addCopy_108 (by decide) ?_
  refine ev_iadd (pc := 110) dT_addCopy_110 ?_
  refine ev_iconst (pc := 111) (v := 0) dT_addCopy_111 (by decide) ?_
  refine ev_iast (pc := 112) dT_addCopy_112 hs (fun h112 hs => ?_)
  refine ev_aload_n (pc := 113) dT_addCopy_113 0 rfl rfl ?_
  refine ev_dup (pc := 114) dT_addCopy_114 ?_
  refine ev_getI (pc := 115) dT_addCopy_115 lT_21 rfl rfl ?_
  refine ev_iconst (pc := 118) (v := 1) dT_addCopy_118 (by decide) ?_
  refine ev_iadd (pc := 119) dT_addCopy_119 ?_
  refine ev_putI (pc := 120) dT_addCopy_120 lT_21 w2_3 rfl rfl hs (fun h120 hs => ?_)
  exact ev_vret rfl dT_addCopy_123 hs
set_option maxHeartbeats 4000000 in
set_option maxRecDepth 100000 in
theorem cT_addPiece_L95 {k117 : Hp → RO} {x1 : Int32} {x2 : Int32} {x4 : Int32} {x6 : Int32} {post : Int32 → Hp → Prop} (hk117 : ∀  (h : Hp), Sat post (k117 h) → Ev mT_addPiece 1 117 [(0, .inr 1), (1, .inl x1), (2, .inl x2), (4, .inl x4), (6, .inl x6)] [] h post) : ∀ (n : Nat) (x7_95 : Int32) (h95 : Hp), Sat post (fT_addPiece_L95 k117 x1 x2 x4 x6 n x7_95 h95) → Ev mT_addPiece 1 95 [(0, .inr 1), (1, .inl x1), (2, .inl x2), (4, .inl x4), (6, .inl x6), (7, .inl x7_95)] [] h95 post := by
  intro n
  induction n with
  | zero =>
    intro x7_95 h95 hs
    exact False.elim hs
  | succ n ih =>
    intro x7_95 h95 hs
    refine ev_iload (pc := 95) dT_addPiece_95 5 rfl ?_
    refine ev_iload_n (pc := 97) dT_addPiece_97 2 rfl rfl ?_
    refine ev_icmp_ge (pc := 98) (tgt := 117) dT_addPiece_98 (by decide) hs (fun hs => ?_) (fun hs => ?_)
    · refine ev_sub [(0, .inr 1), (1, .inl x1), (2, .inl x2), (4, .inl x4), (6, .inl x6)] [0, 1, 2, 3, 4] rfl ?_
      exact hk117 _ hs
    · refine ev_aload_n (pc := 101) dT_addPiece_101 0 rfl rfl ?_
      refine ev_iload (pc := 102) dT_addPiece_102 3 rfl ?_
      refine ev_iload (pc := 104) dT_addPiece_104 4 rfl ?_
      refine ev_iload (pc := 106) dT_addPiece_106 5 rfl ?_
      refine ev_callVv (pc := 108) (As := [.inl x4, .inl x6, .inl x7_95]) (S := []) (d2 := 0) dT_addPiece_108 vT_51 zT_addCopy rfl rfl rfl rfl (Nat.le_of_ble_eq_true rfl) (Nat.le_of_ble_eq_true rfl) rfl rfl (fun p1 hz => cT_addCopy hz) hs (fun r108 h108 hs => ?_)
      refine ev_iinc (pc := 111) (L' := [(0, .inr 1), (1, .inl x1), (2, .inl x2), (4, .inl x4), (6, .inl x6), (7, .inl (x7_95 + 1))]) (v := (x7_95 + 1)) dT_addPiece_111 5 rfl (congrArg (HAdd.hAdd _) (by decide)) rfl (Nat.le_of_ble_eq_true rfl) rfl ?_
      refine ev_goto (pc := 114) (tgt := 95) dT_addPiece_114 (by decide) ?_
      exact ih _ _ hs
set_option maxHeartbeats 4000000 in
set_option maxRecDepth 100000 in
theorem cT_addPiece_L86 {k123 : Hp → RO} {x1 : Int32} {x2 : Int32} {x4 : Int32} {post : Int32 → Hp → Prop} (hk123 : ∀  (h : Hp), Sat post (k123 h) → Ev mT_addPiece 1 123 [(0, .inr 1), (4, .inl x4)] [] h post) : ∀ (n : Nat) (x6_86 : Int32) (h86 : Hp), Sat post (fT_addPiece_L86 k123 x1 x2 x4 n x6_86 h86) → Ev mT_addPiece 1 86 [(0, .inr 1), (1, .inl x1), (2, .inl x2), (4, .inl x4), (6, .inl x6_86)] [] h86 post := by
  intro n
  induction n with
  | zero =>
    intro x6_86 h86 hs
    exact False.elim hs
  | succ n ih =>
    intro x6_86 h86 hs
    refine ev_iload (pc := 86) dT_addPiece_86 4 rfl ?_
    refine ev_iload_n (pc := 88) dT_addPiece_88 1 rfl rfl ?_
    refine ev_icmp_ge (pc := 89) (tgt := 123) dT_addPiece_89 (by decide) hs (fun hs => ?_) (fun hs => ?_)
    · refine ev_sub [(0, .inr 1), (4, .inl x4)] [0, 3] rfl ?_
      exact hk123 _ hs
    · refine ev_iconst (pc := 92) (v := 0) dT_addPiece_92 (by decide) ?_
      refine ev_istore (pc := 93) (L' := [(0, .inr 1), (1, .inl x1), (2, .inl x2), (4, .inl x4), (6, .inl x6_86), (7, .inl 0)]) dT_addPiece_93 rfl (Nat.le_of_ble_eq_true rfl) rfl ?_
      refine cT_addPiece_L95 (fun h117 hs => ?_) _ _ _ hs
      refine ev_iinc (pc := 117) (L' := [(0, .inr 1), (1, .inl x1), (2, .inl x2), (4, .inl x4), (6, .inl (x6_86 + 1))]) (v := (x6_86 + 1)) dT_addPiece_117 4 rfl (congrArg (HAdd.hAdd _) (by decide)) rfl (Nat.le_of_ble_eq_true rfl) rfl ?_
      refine ev_goto (pc := 120) (tgt := 86) dT_addPiece_120 (by decide) ?_
      exact ih _ _ hs
set_option maxHeartbeats 4000000 in
set_option maxRecDepth 100000 in
theorem cT_addPiece {h0 : Hp} {x1 : Int32} {x2 : Int32} {x3 : Int32} {post : Int32 → Hp → Prop} (hs : Sat post (fT_addPiece h0 x1 x2 x3)) : Mt mT_addPiece 1 [.inr 1, .inl x1, .inl x2, .inl x3] h0 post := by
  refine mt_body (L := [(0, .inr 1), (1, .inl x1), (2, .inl x2), (3, .inl x3)]) (by decide +kernel) (Nat.le_of_ble_eq_true rfl) rfl ?_
  refine ev_aload_n (pc := 0) dT_addPiece_0 0 rfl rfl ?_
  refine ev_getI (pc := 1) dT_addPiece_1 lT_18 rfl rfl ?_
  refine ev_bnd hs (fun v4 hs => ?_)
  refine ev_istore (pc := 4) (L' := [(0, .inr 1), (1, .inl x1), (2, .inl x2), (3, .inl x3), (4, .inl v4)]) dT_addPiece_4 rfl (Nat.le_of_ble_eq_true rfl) rfl ?_
  refine ev_iload (pc := 6) dT_addPiece_6 4 rfl ?_
  refine ev_bipush (pc := 8) (v := 6) dT_addPiece_8 (by decide) ?_
  refine ev_imul (pc := 10) dT_addPiece_10 ?_
  refine ev_bnd hs (fun v11 hs => ?_)
  refine ev_istore (pc := 11) (L' := [(0, .inr 1), (1, .inl x1), (2, .inl x2), (3, .inl x3), (4, .inl v4), (5, .inl v11)]) dT_addPiece_11 rfl (Nat.le_of_ble_eq_true rfl) rfl ?_
  refine ev_aload_n (pc := 13) dT_addPiece_13 0 rfl rfl ?_
  refine ev_getR (pc := 14) dT_addPiece_14 lT_27 rfl rfl ?_
  refine ev_iload (pc := 17) dT_addPiece_17 5 rfl ?_
  refine ev_iconst (pc := 19) (v := 0) dT_addPiece_19 (by decide) ?_
  refine ev_iadd (pc := 20) dT_addPiece_20 ?_
  refine ev_iload_n (pc := 21) dT_addPiece_21 1 rfl rfl ?_
  refine ev_iast (pc := 22) dT_addPiece_22 hs (fun h22 hs => ?_)
  refine ev_aload_n (pc := 23) dT_addPiece_23 0 rfl rfl ?_
  refine ev_getR (pc := 24) dT_addPiece_24 lT_27 rfl rfl ?_
  refine ev_iload (pc := 27) dT_addPiece_27 5 rfl ?_
  refine ev_iconst (pc := 29) (v := 1) dT_addPiece_29 (by decide) ?_
  refine ev_iadd (pc := 30) dT_addPiece_30 ?_
  refine ev_iload_n (pc := 31) dT_addPiece_31 2 rfl rfl ?_
  refine ev_iast (pc := 32) dT_addPiece_32 hs (fun h32 hs => ?_)
  refine ev_aload_n (pc := 33) dT_addPiece_33 0 rfl rfl ?_
  refine ev_getR (pc := 34) dT_addPiece_34 lT_27 rfl rfl ?_
  refine ev_iload (pc := 37) dT_addPiece_37 5 rfl ?_
  refine ev_iconst (pc := 39) (v := 2) dT_addPiece_39 (by decide) ?_
  refine ev_iadd (pc := 40) dT_addPiece_40 ?_
  refine ev_iload_n (pc := 41) dT_addPiece_41 3 rfl rfl ?_
  refine ev_iast (pc := 42) dT_addPiece_42 hs (fun h42 hs => ?_)
  refine ev_aload_n (pc := 43) dT_addPiece_43 0 rfl rfl ?_
  refine ev_getR (pc := 44) dT_addPiece_44 lT_27 rfl rfl ?_
  refine ev_iload (pc := 47) dT_addPiece_47 5 rfl ?_
  refine ev_iconst (pc := 49) (v := 3) dT_addPiece_49 (by decide) ?_
  refine ev_iadd (pc := 50) dT_addPiece_50 ?_
  refine ev_aload_n (pc := 51) dT_addPiece_51 0 rfl rfl ?_
  refine ev_getI (pc := 52) dT_addPiece_52 lT_21 rfl rfl ?_
  refine ev_iast (pc := 55) dT_addPiece_55 hs (fun h55 hs => ?_)
  refine ev_aload_n (pc := 56) dT_addPiece_56 0 rfl rfl ?_
  refine ev_getR (pc := 57) dT_addPiece_57 lT_27 rfl rfl ?_
  refine ev_iload (pc := 60) dT_addPiece_60 5 rfl ?_
  refine ev_iconst (pc := 62) (v := 4) dT_addPiece_62 (by decide) ?_
  refine ev_iadd (pc := 63) dT_addPiece_63 ?_
  refine ev_aload_n (pc := 64) dT_addPiece_64 0 rfl rfl ?_
  refine ev_getI (pc := 65) dT_addPiece_65 lT_21 rfl rfl ?_
  refine ev_iload_n (pc := 68) dT_addPiece_68 1 rfl rfl ?_
  refine ev_iload_n (pc := 69) dT_addPiece_69 2 rfl rfl ?_
  refine ev_imul (pc := 70) dT_addPiece_70 ?_
  refine ev_iadd (pc := 71) dT_addPiece_71 ?_
  refine ev_iast (pc := 72) dT_addPiece_72 hs (fun h72 hs => ?_)
  refine ev_aload_n (pc := 73) dT_addPiece_73 0 rfl rfl ?_
  refine ev_getR (pc := 74) dT_addPiece_74 lT_27 rfl rfl ?_
  refine ev_iload (pc := 77) dT_addPiece_77 5 rfl ?_
  refine ev_iconst (pc := 79) (v := 5) dT_addPiece_79 (by decide) ?_
  refine ev_iadd (pc := 80) dT_addPiece_80 ?_
  refine ev_iconst (pc := 81) (v := 0) dT_addPiece_81 (by decide) ?_
  refine ev_iast (pc := 82) dT_addPiece_82 hs (fun h82 hs => ?_)
  refine ev_iconst (pc := 83) (v := 0) dT_addPiece_83 (by decide) ?_
  refine ev_istore (pc := 84) (L' := [(0, .inr 1), (1, .inl x1), (2, .inl x2), (3, .inl x3), (4, .inl v4), (5, .inl v11), (6, .inl 0)]) dT_addPiece_84 rfl (Nat.le_of_ble_eq_true rfl) rfl ?_
  refine ev_sub [(0, .inr 1), (1, .inl x1), (2, .inl x2), (4, .inl v4), (6, .inl 0)] [0, 1, 2, 4, 6] rfl ?_
  refine cT_addPiece_L86 (fun h123 hs => ?_) _ _ _ hs
  refine ev_aload_n (pc := 123) dT_addPiece_123 0 rfl rfl ?_
  refine ev_dup (pc := 124) dT_addPiece_124 ?_
  refine ev_getI (pc := 125) dT_addPiece_125 lT_18 rfl rfl ?_
  refine ev_iconst (pc := 128) (v := 1) dT_addPiece_128 (by decide) ?_
  refine ev_iadd (pc := 129) dT_addPiece_129 ?_
  refine ev_putI (pc := 130) dT_addPiece_130 lT_18 w2_2 rfl rfl hs (fun h130 hs => ?_)
  refine ev_iload (pc := 133) dT_addPiece_133 1 rfl ?_
  exact ev_iret rfl dT_addPiece_135 hs
set_option maxHeartbeats 4000000 in
set_option maxRecDepth 100000 in
theorem cT_pieceFact {h0 : Hp} {x1 : Int32} {x2 : Int32} {post : Int32 → Hp → Prop} (hs : Sat post (fT_pieceFact h0 x1 x2)) : Mt mT_pieceFact 0 [.inr 1, .inl x1, .inl x2] h0 post := by
  refine mt_body (L := [(0, .inr 1), (1, .inl x1), (2, .inl x2)]) (by decide +kernel) (Nat.le_of_ble_eq_true rfl) rfl ?_
  refine ev_aload_n (pc := 0) dT_pieceFact_0 0 rfl rfl ?_
  refine ev_getR (pc := 1) dT_pieceFact_1 lT_27 rfl rfl ?_
  refine ev_iload_n (pc := 4) dT_pieceFact_4 1 rfl rfl ?_
  refine ev_bipush (pc := 5) (v := 6) dT_pieceFact_5 (by decide) ?_
  refine ev_imul (pc := 7) dT_pieceFact_7 ?_
  refine ev_iload_n (pc := 8) dT_pieceFact_8 2 rfl rfl ?_
  refine ev_iadd (pc := 9) dT_pieceFact_9 ?_
  refine ev_iald (pc := 10) dT_pieceFact_10 hs (fun r10 hs => ?_)
  exact ev_iret rfl dT_pieceFact_11 hs
set_option maxHeartbeats 4000000 in
set_option maxRecDepth 100000 in
theorem cT_dropPiece {h0 : Hp}  {post : Int32 → Hp → Prop} (hs : Sat post (fT_dropPiece h0 )) : Mt mT_dropPiece 1 [.inr 1] h0 post := by
  refine mt_body (L := [(0, .inr 1)]) (by decide +kernel) (Nat.le_of_ble_eq_true rfl) rfl ?_
  refine ev_aload_n (pc := 0) dT_dropPiece_0 0 rfl rfl ?_
  refine ev_dup (pc := 1) dT_dropPiece_1 ?_
  refine ev_getI (pc := 2) dT_dropPiece_2 lT_18 rfl rfl ?_
  refine ev_iconst (pc := 5) (v := 1) dT_dropPiece_5 (by decide) ?_
  refine ev_isub (pc := 6) dT_dropPiece_6 ?_
  refine ev_putI (pc := 7) dT_dropPiece_7 lT_18 w2_2 rfl rfl hs (fun h7 hs => ?_)
  refine ev_aload_n (pc := 10) dT_dropPiece_10 0 rfl rfl ?_
  refine ev_aload_n (pc := 11) dT_dropPiece_11 0 rfl rfl ?_
  refine ev_aload_n (pc := 12) dT_dropPiece_12 0 rfl rfl ?_
  refine ev_getI (pc := 13) dT_dropPiece_13 lT_18 rfl rfl ?_
  refine ev_iconst (pc := 16) (v := 3) dT_dropPiece_16 (by decide) ?_
  refine ev_callV (pc := 17) (As := [.inl (h7 1 2), .inl 3]) (S := [.inr 1]) (d2 := 0) dT_dropPiece_17 vT_55 zT_pieceFact rfl rfl rfl rfl (Nat.le_of_ble_eq_true rfl) (Nat.le_of_ble_eq_true rfl) rfl rfl (fun p1 hz => cT_pieceFact hz) hs (fun r17 h17 hs => ?_)
  refine ev_putI (pc := 20) dT_dropPiece_20 lT_21 w2_3 rfl rfl hs (fun h20 hs => ?_)
  refine ev_aload_n (pc := 23) dT_dropPiece_23 0 rfl rfl ?_
  refine ev_getI (pc := 24) dT_dropPiece_24 lT_18 rfl rfl ?_
  exact ev_iret rfl dT_dropPiece_27 hs
set_option maxHeartbeats 4000000 in
set_option maxRecDepth 100000 in
theorem cT_hasCopy {h0 : Hp} {x1 : Int32} {post : Int32 → Hp → Prop} (hs : Sat post (fT_hasCopy h0 x1)) : Mt mT_hasCopy 1 [.inr 1, .inl x1] h0 post := by
  refine mt_body (L := [(0, .inr 1), (1, .inl x1)]) (by decide +kernel) (Nat.le_of_ble_eq_true rfl) rfl ?_
  refine ev_iload_n (pc := 0) dT_hasCopy_0 1 rfl rfl ?_
  refine ev_iconst (pc := 1) (v := 0) dT_hasCopy_1 (by decide) ?_
  refine ev_aload_n (pc := 2) dT_hasCopy_2 0 rfl rfl ?_
  refine ev_getI (pc := 3) dT_hasCopy_3 lT_21 rfl rfl ?_
  refine ev_iconst (pc := 6) (v := 1) dT_hasCopy_6 (by decide) ?_
  refine ev_isub (pc := 7) dT_hasCopy_7 ?_
  refine ev_callS (pc := 8) (As := [.inl x1, .inl 0, .inl ((h0 1 3) - 1)]) (S := []) (d2 := 0) dT_hasCopy_8 (Or.inr vT_47) zX_isWithin rfl (Nat.le_of_ble_eq_true rfl) (Nat.le_of_ble_eq_true rfl) rfl rfl (fun p1 hz => cX_isWithin hz) hs (fun r8 h8 hs => ?_)
  exact ev_zret rfl dT_hasCopy_11 hs
set_option maxHeartbeats 4000000 in
set_option maxRecDepth 100000 in
theorem cX_isMark {h0 : Hp} {x0 : Int32} {post : Int32 → Hp → Prop} (hs : Sat post (fX_isMark h0 x0)) : Mt mX_isMark 1 [.inl x0] h0 post := by
  refine mt_body (L := [(0, .inl x0)]) (by decide +kernel) (Nat.le_of_ble_eq_true rfl) rfl ?_
  refine ev_iload_n (pc := 0) dX_isMark_0 0 rfl rfl ?_
  refine ev_iconst (pc := 1) (v := 0) dX_isMark_1 (by decide) ?_
  refine ev_bipush (pc := 2) (v := 7) dX_isMark_2 (by decide) ?_
  refine ev_callS (pc := 4) (As := [.inl x0, .inl 0, .inl 7]) (S := []) (d2 := 0) dX_isMark_4 (Or.inl vX_41) zX_isWithin rfl (Nat.le_of_ble_eq_true rfl) (Nat.le_of_ble_eq_true rfl) rfl rfl (fun p1 hz => cX_isWithin hz) hs (fun r4 h4 hs => ?_)
  exact ev_zret rfl dX_isMark_7 hs
set_option maxHeartbeats 4000000 in
set_option maxRecDepth 100000 in
theorem cT_copyFact {h0 : Hp} {x1 : Int32} {x2 : Int32} {post : Int32 → Hp → Prop} (hs : Sat post (fT_copyFact h0 x1 x2)) : Mt mT_copyFact 0 [.inr 1, .inl x1, .inl x2] h0 post := by
  refine mt_body (L := [(0, .inr 1), (1, .inl x1), (2, .inl x2)]) (by decide +kernel) (Nat.le_of_ble_eq_true rfl) rfl ?_
  refine ev_aload_n (pc := 0) dT_copyFact_0 0 rfl rfl ?_
  refine ev_getR (pc := 1) dT_copyFact_1 lT_31 rfl rfl ?_
  refine ev_iload_n (pc := 4) dT_copyFact_4 1 rfl rfl ?_
  refine ev_bipush (pc := 5) (v := 10) dT_copyFact_5 (by decide) ?_
  refine ev_imul (pc := 7) dT_copyFact_7 ?_
  refine ev_iload_n (pc := 8) dT_copyFact_8 2 rfl rfl ?_
  refine ev_iadd (pc := 9) dT_copyFact_9 ?_
  refine ev_iald (pc := 10) dT_copyFact_10 hs (fun r10 hs => ?_)
  exact ev_iret rfl dT_copyFact_11 hs
set_option maxHeartbeats 4000000 in
set_option maxRecDepth 100000 in
theorem cX_isIn {h0 : Hp} {x0 : Int32} {x1 : Int32} {post : Int32 → Hp → Prop} (hs : Sat post (fX_isIn h0 x0 x1)) : Mt mX_isIn 0 [.inl x0, .inl x1] h0 post := by
  refine mt_body (L := [(0, .inl x0), (1, .inl x1)]) (by decide +kernel) (Nat.le_of_ble_eq_true rfl) rfl ?_
  refine ev_iload_n (pc := 0) dX_isIn_0 0 rfl rfl ?_
  refine ev_iload_n (pc := 1) dX_isIn_1 1 rfl rfl ?_
  refine ev_ishr (pc := 2) dX_isIn_2 ?_
  refine ev_iconst (pc := 3) (v := 1) dX_isIn_3 (by decide) ?_
  refine ev_iand (pc := 4) dX_isIn_4 ?_
  refine ev_iconst (pc := 5) (v := 1) dX_isIn_5 (by decide) ?_
  refine ev_icmp_ne (pc := 6) (tgt := 13) dX_isIn_6 (by decide) hs (fun hs => ?_) (fun hs => ?_)
  · refine ev_iconst (pc := 13) (v := 0) dX_isIn_13 (by decide) ?_
    exact ev_zret rfl dX_isIn_14 hs
  · refine ev_iconst (pc := 9) (v := 1) dX_isIn_9 (by decide) ?_
    refine ev_goto (pc := 10) (tgt := 14) dX_isIn_10 (by decide) ?_
    exact ev_zret rfl dX_isIn_14 hs
set_option maxHeartbeats 4000000 in
set_option maxRecDepth 100000 in
theorem cT_markOf {h0 : Hp} {x1 : Int32} {x2 : Int32} {post : Int32 → Hp → Prop} (hs : Sat post (fT_markOf h0 x1 x2)) : Mt mT_markOf 1 [.inr 1, .inl x1, .inl x2] h0 post := by
  refine mt_body (L := [(0, .inr 1), (1, .inl x1), (2, .inl x2)]) (by decide +kernel) (Nat.le_of_ble_eq_true rfl) rfl ?_
  refine ev_aload_n (pc := 0) dT_markOf_0 0 rfl rfl ?_
  refine ev_iload_n (pc := 1) dT_markOf_1 1 rfl rfl ?_
  refine ev_bipush (pc := 2) (v := 8) dT_markOf_2 (by decide) ?_
  refine ev_callV (pc := 4) (As := [.inl x1, .inl 8]) (S := []) (d2 := 0) dT_markOf_4 vT_69 zT_copyFact rfl rfl rfl rfl (Nat.le_of_ble_eq_true rfl) (Nat.le_of_ble_eq_true rfl) rfl rfl (fun p1 hz => cT_copyFact hz) hs (fun r4 h4 hs => ?_)
  refine ev_iload_n (pc := 7) dT_markOf_7 2 rfl rfl ?_
  refine ev_callS (pc := 8) (As := [.inl r4, .inl x2]) (S := []) (d2 := 0) dT_markOf_8 (Or.inr vT_59) zX_isIn rfl (Nat.le_of_ble_eq_true rfl) (Nat.le_of_ble_eq_true rfl) rfl rfl (fun p1 hz => cX_isIn hz) hs (fun r8 h8 hs => ?_)
  refine ev_if_eq (pc := 11) (tgt := 16) dT_markOf_11 (by decide) hs (fun hs => ?_) (fun hs => ?_)
  · refine ev_aload_n (pc := 16) dT_markOf_16 0 rfl rfl ?_
    refine ev_iload_n (pc := 17) dT_markOf_17 1 rfl rfl ?_
    refine ev_bipush (pc := 18) (v := 9) dT_markOf_18 (by decide) ?_
    refine ev_callV (pc := 20) (As := [.inl x1, .inl 9]) (S := []) (d2 := 0) dT_markOf_20 vT_69 zT_copyFact rfl rfl rfl rfl (Nat.le_of_ble_eq_true rfl) (Nat.le_of_ble_eq_true rfl) rfl rfl (fun p1 hz => cT_copyFact hz) hs (fun r20 h20 hs => ?_)
    refine ev_iload_n (pc := 23) dT_markOf_23 2 rfl rfl ?_
    refine ev_callS (pc := 24) (As := [.inl r20, .inl x2]) (S := []) (d2 := 0) dT_markOf_24 (Or.inr vT_59) zX_isIn rfl (Nat.le_of_ble_eq_true rfl) (Nat.le_of_ble_eq_true rfl) rfl rfl (fun p1 hz => cX_isIn hz) hs (fun r24 h24 hs => ?_)
    refine ev_if_eq (pc := 27) (tgt := 34) dT_markOf_27 (by decide) hs (fun hs => ?_) (fun hs => ?_)
    · refine ev_iconst (pc := 34) (v := 2) dT_markOf_34 (by decide) ?_
      exact ev_iret rfl dT_markOf_35 hs
    · refine ev_iconst (pc := 30) (v := 0) dT_markOf_30 (by decide) ?_
      refine ev_goto (pc := 31) (tgt := 35) dT_markOf_31 (by decide) ?_
      exact ev_iret rfl dT_markOf_35 hs
  · refine ev_iconst (pc := 14) (v := 1) dT_markOf_14 (by decide) ?_
    exact ev_iret rfl dT_markOf_15 hs
set_option maxHeartbeats 4000000 in
set_option maxRecDepth 100000 in
theorem cT_putCopyFact {h0 : Hp} {x1 : Int32} {x2 : Int32} {x3 : Int32} {post : Int32 → Hp → Prop} (hs : Sat post (fT_putCopyFact h0 x1 x2 x3)) : Mt mT_putCopyFact 0 [.inr 1, .inl x1, .inl x2, .inl x3] h0 post := by
  refine mt_body (L := [(0, .inr 1), (1, .inl x1), (2, .inl x2), (3, .inl x3)]) (by decide +kernel) (Nat.le_of_ble_eq_true rfl) rfl ?_
  refine ev_aload_n (pc := 0) dT_putCopyFact_0 0 rfl rfl ?_
  refine ev_getR (pc := 1) dT_putCopyFact_1 lT_31 rfl rfl ?_
  refine ev_iload_n (pc := 4) dT_putCopyFact_4 1 rfl rfl ?_
  refine ev_bipush (pc := 5) (v := 10) dT_putCopyFact_5 (by decide) ?_
  refine ev_imul (pc := 7) dT_putCopyFact_7 ?_
  refine ev_iload_n (pc := 8) dT_putCopyFact_8 2 rfl rfl ?_
  refine ev_iadd (pc := 9) dT_putCopyFact_9 ?_
  refine ev_iload_n (pc := 10) dT_putCopyFact_10 3 rfl rfl ?_
  refine ev_iast (pc := 11) dT_putCopyFact_11 hs (fun h11 hs => ?_)
  exact ev_vret rfl dT_putCopyFact_12 hs
set_option maxHeartbeats 4000000 in
set_option maxRecDepth 100000 in
theorem cT_putMark {h0 : Hp} {x1 : Int32} {x2 : Int32} {x3 : Int32} {post : Int32 → Hp → Prop} (hs : Sat post (fT_putMark h0 x1 x2 x3)) : Mt mT_putMark 1 [.inr 1, .inl x1, .inl x2, .inl x3] h0 post := by
  refine mt_body (L := [(0, .inr 1), (1, .inl x1), (2, .inl x2), (3, .inl x3)]) (by decide +kernel) (Nat.le_of_ble_eq_true rfl) rfl ?_
  refine ev_iconst (pc := 0) (v := 1) dT_putMark_0 (by decide) ?_
  refine ev_iload_n (pc := 1) dT_putMark_1 2 rfl rfl ?_
  refine ev_ishl (pc := 2) dT_putMark_2 ?_
  refine ev_bnd hs (fun v3 hs => ?_)
  refine ev_istore (pc := 3) (L' := [(0, .inr 1), (1, .inl x1), (2, .inl x2), (3, .inl x3), (4, .inl v3)]) dT_putMark_3 rfl (Nat.le_of_ble_eq_true rfl) rfl ?_
  refine ev_aload_n (pc := 5) dT_putMark_5 0 rfl rfl ?_
  refine ev_iload_n (pc := 6) dT_putMark_6 1 rfl rfl ?_
  refine ev_bipush (pc := 7) (v := 8) dT_putMark_7 (by decide) ?_
  refine ev_callV (pc := 9) (As := [.inl x1, .inl 8]) (S := []) (d2 := 0) dT_putMark_9 vT_69 zT_copyFact rfl rfl rfl rfl (Nat.le_of_ble_eq_true rfl) (Nat.le_of_ble_eq_true rfl) rfl rfl (fun p1 hz => cT_copyFact hz) hs (fun r9 h9 hs => ?_)
  refine ev_iload (pc := 12) dT_putMark_12 4 rfl ?_
  refine ev_iconst (pc := 14) (v := (-1)) dT_putMark_14 (by decide) ?_
  refine ev_ixor (pc := 15) dT_putMark_15 ?_
  refine ev_iand (pc := 16) dT_putMark_16 ?_
  refine ev_bnd hs (fun v17 hs => ?_)
  refine ev_istore (pc := 17) (L' := [(0, .inr 1), (1, .inl x1), (2, .inl x2), (3, .inl x3), (4, .inl v3), (5, .inl v17)]) dT_putMark_17 rfl (Nat.le_of_ble_eq_true rfl) rfl ?_
  refine ev_aload_n (pc := 19) dT_putMark_19 0 rfl rfl ?_
  refine ev_iload_n (pc := 20) dT_putMark_20 1 rfl rfl ?_
  refine ev_bipush (pc := 21) (v := 9) dT_putMark_21 (by decide) ?_
  refine ev_callV (pc := 23) (As := [.inl x1, .inl 9]) (S := []) (d2 := 0) dT_putMark_23 vT_69 zT_copyFact rfl rfl rfl rfl (Nat.le_of_ble_eq_true rfl) (Nat.le_of_ble_eq_true rfl) rfl rfl (fun p1 hz => cT_copyFact hz) hs (fun r23 h23 hs => ?_)
  refine ev_iload (pc := 26) dT_putMark_26 4 rfl ?_
  refine ev_iconst (pc := 28) (v := (-1)) dT_putMark_28 (by decide) ?_
  refine ev_ixor (pc := 29) dT_putMark_29 ?_
  refine ev_iand (pc := 30) dT_putMark_30 ?_
  refine ev_bnd hs (fun v31 hs => ?_)
  refine ev_istore (pc := 31) (L' := [(0, .inr 1), (1, .inl x1), (2, .inl x2), (3, .inl x3), (4, .inl v3), (5, .inl v17), (6, .inl v31)]) dT_putMark_31 rfl (Nat.le_of_ble_eq_true rfl) rfl ?_
  refine ev_aload_n (pc := 33) dT_putMark_33 0 rfl rfl ?_
  refine ev_iload_n (pc := 34) dT_putMark_34 1 rfl rfl ?_
  refine ev_bipush (pc := 35) (v := 8) dT_putMark_35 (by decide) ?_
  refine ev_iload_n (pc := 37) dT_putMark_37 3 rfl rfl ?_
  refine ev_iconst (pc := 38) (v := 1) dT_putMark_38 (by decide) ?_
  refine ev_jn (fun (j : Int32 → Hp → RO) => ∀ (s52 : Int32) (h52 : Hp), Sat post (j s52 h52) → Ev mT_putMark 1 52 [(0, .inr 1), (1, .inl x1), (3, .inl x3), (4, .inl v3), (6, .inl v31)] [.inl s52, .inl 8, .inl x1, .inr 1] h52 post) hs (fun s52 h52 hs => ?_) (fun j52 hj52 hs => ?_)
  · refine ev_callVv (pc := 52) (As := [.inl x1, .inl 8, .inl s52]) (S := []) (d2 := 0) dT_putMark_52 vT_72 zT_putCopyFact rfl rfl rfl rfl (Nat.le_of_ble_eq_true rfl) (Nat.le_of_ble_eq_true rfl) rfl rfl (fun p1 hz => cT_putCopyFact hz) hs (fun r52 h52 hs => ?_)
    refine ev_aload_n (pc := 55) dT_putMark_55 0 rfl rfl ?_
    refine ev_iload_n (pc := 56) dT_putMark_56 1 rfl rfl ?_
    refine ev_bipush (pc := 57) (v := 9) dT_putMark_57 (by decide) ?_
    refine ev_iload_n (pc := 59) dT_putMark_59 2 rfl rfl ?_
    refine ev_jn (fun (j : Int32 → Hp → RO) => ∀ (s73 : Int32) (h73 : Hp), Sat post (j s73 h73) → Ev mT_putMark 1 73 [] [.inl s73, .inl 9, .inl x1, .inr 1] h73 post) hs (fun s73 h73 hs => ?_) (fun j73 hj73 hs => ?_)
    · refine ev_callVv (pc := 73) (As := [.inl x1, .inl 9, .inl s73]) (S := []) (d2 := 0) dT_putMark_73 vT_72 zT_putCopyFact rfl rfl rfl rfl (Nat.le_of_ble_eq_true rfl) (Nat.le_of_ble_eq_true rfl) rfl rfl (fun p1 hz => cT_putCopyFact hz) hs (fun r73 h73 hs => ?_)
      exact ev_vret rfl dT_putMark_76 hs
    refine ev_if_ne (pc := 60) (tgt := 71) dT_putMark_60 (by decide) hs (fun hs => ?_) (fun hs => ?_)
    · refine ev_iload (pc := 71) dT_putMark_71 4 rfl ?_
      refine ev_sub [] [] rfl ?_
      exact hj73 _ _ hs
    · refine ev_iload (pc := 63) dT_putMark_63 4 rfl ?_
      refine ev_iload (pc := 65) dT_putMark_65 3 rfl ?_
      refine ev_ior (pc := 67) dT_putMark_67 ?_
      refine ev_goto (pc := 68) (tgt := 73) dT_putMark_68 (by decide) ?_
      refine ev_sub [] [] rfl ?_
      exact hj73 _ _ hs
  refine ev_icmp_ne (pc := 39) (tgt := 50) dT_putMark_39 (by decide) hs (fun hs => ?_) (fun hs => ?_)
  · refine ev_iload (pc := 50) dT_putMark_50 5 rfl ?_
    refine ev_sub [(0, .inr 1), (1, .inl x1), (3, .inl x3), (4, .inl v3), (6, .inl v31)] [0, 1, 3, 4, 6] rfl ?_
    exact hj52 _ _ hs
  · refine ev_iload (pc := 42) dT_putMark_42 5 rfl ?_
    refine ev_iload (pc := 44) dT_putMark_44 4 rfl ?_
    refine ev_ior (pc := 46) dT_putMark_46 ?_
    refine ev_goto (pc := 47) (tgt := 52) dT_putMark_47 (by decide) ?_
    refine ev_sub [(0, .inr 1), (1, .inl x1), (3, .inl x3), (4, .inl v3), (6, .inl v31)] [0, 1, 3, 4, 6] rfl ?_
    exact hj52 _ _ hs
set_option maxHeartbeats 4000000 in
set_option maxRecDepth 100000 in
theorem cJ_bitCount {h0 : Hp} {x0 : Int32} {post : Int32 → Hp → Prop} (hs : Sat post (fJ_bitCount h0 x0)) : Mt mJ_bitCount 0 [.inl x0] h0 post := by
  refine mt_body (L := [(0, .inl x0)]) (by decide +kernel) (Nat.le_of_ble_eq_true rfl) rfl ?_
  refine ev_iload_n (pc := 0) dJ_bitCount_0 0 rfl rfl ?_
  refine ev_iload_n (pc := 1) dJ_bitCount_1 0 rfl rfl ?_
  refine ev_iconst (pc := 2) (v := 1) dJ_bitCount_2 (by decide) ?_
  refine ev_iushr (pc := 3) dJ_bitCount_3 ?_
  refine ev_ldcw (pc := 4) (v := 1431655765) dJ_bitCount_4 kJ_265 ?_
  refine ev_iand (pc := 7) dJ_bitCount_7 ?_
  refine ev_isub (pc := 8) dJ_bitCount_8 ?_
  refine ev_bnd hs (fun v9 hs => ?_)
  refine ev_istore_n (pc := 9) (L' := [(0, .inl v9)]) dJ_bitCount_9 rfl rfl (Nat.le_of_ble_eq_true rfl) rfl ?_
  refine ev_iload_n (pc := 10) dJ_bitCount_10 0 rfl rfl ?_
  refine ev_ldcw (pc := 11) (v := 858993459) dJ_bitCount_11 kJ_266 ?_
  refine ev_iand (pc := 14) dJ_bitCount_14 ?_
  refine ev_iload_n (pc := 15) dJ_bitCount_15 0 rfl rfl ?_
  refine ev_iconst (pc := 16) (v := 2) dJ_bitCount_16 (by decide) ?_
  refine ev_iushr (pc := 17) dJ_bitCount_17 ?_
  refine ev_ldcw (pc := 18) (v := 858993459) dJ_bitCount_18 kJ_266 ?_
  refine ev_iand (pc := 21) dJ_bitCount_21 ?_
  refine ev_iadd (pc := 22) dJ_bitCount_22 ?_
  refine ev_bnd hs (fun v23 hs => ?_)
  refine ev_istore_n (pc := 23) (L' := [(0, .inl v23)]) dJ_bitCount_23 rfl rfl (Nat.le_of_ble_eq_true rfl) rfl ?_
  refine ev_iload_n (pc := 24) dJ_bitCount_24 0 rfl rfl ?_
  refine ev_iload_n (pc := 25) dJ_bitCount_25 0 rfl rfl ?_
  refine ev_iconst (pc := 26) (v := 4) dJ_bitCount_26 (by decide) ?_
  refine ev_iushr (pc := 27) dJ_bitCount_27 ?_
  refine ev_iadd (pc := 28) dJ_bitCount_28 ?_
  refine ev_ldcw (pc := 29) (v := 252645135) dJ_bitCount_29 kJ_267 ?_
  refine ev_iand (pc := 32) dJ_bitCount_32 ?_
  refine ev_bnd hs (fun v33 hs => ?_)
  refine ev_istore_n (pc := 33) (L' := [(0, .inl v33)]) dJ_bitCount_33 rfl rfl (Nat.le_of_ble_eq_true rfl) rfl ?_
  refine ev_iload_n (pc := 34) dJ_bitCount_34 0 rfl rfl ?_
  refine ev_iload_n (pc := 35) dJ_bitCount_35 0 rfl rfl ?_
  refine ev_bipush (pc := 36) (v := 8) dJ_bitCount_36 (by decide) ?_
  refine ev_iushr (pc := 38) dJ_bitCount_38 ?_
  refine ev_iadd (pc := 39) dJ_bitCount_39 ?_
  refine ev_bnd hs (fun v40 hs => ?_)
  refine ev_istore_n (pc := 40) (L' := [(0, .inl v40)]) dJ_bitCount_40 rfl rfl (Nat.le_of_ble_eq_true rfl) rfl ?_
  refine ev_iload_n (pc := 41) dJ_bitCount_41 0 rfl rfl ?_
  refine ev_iload_n (pc := 42) dJ_bitCount_42 0 rfl rfl ?_
  refine ev_bipush (pc := 43) (v := 16) dJ_bitCount_43 (by decide) ?_
  refine ev_iushr (pc := 45) dJ_bitCount_45 ?_
  refine ev_iadd (pc := 46) dJ_bitCount_46 ?_
  refine ev_bnd hs (fun v47 hs => ?_)
  refine ev_istore_n (pc := 47) (L' := [(0, .inl v47)]) dJ_bitCount_47 rfl rfl (Nat.le_of_ble_eq_true rfl) rfl ?_
  refine ev_iload_n (pc := 48) dJ_bitCount_48 0 rfl rfl ?_
  refine ev_bipush (pc := 49) (v := 63) dJ_bitCount_49 (by decide) ?_
  refine ev_iand (pc := 51) dJ_bitCount_51 ?_
  exact ev_iret rfl dJ_bitCount_52 hs
set_option maxHeartbeats 4000000 in
set_option maxRecDepth 100000 in
theorem cT_copyMarks {h0 : Hp} {x1 : Int32} {x2 : Int32} {post : Int32 → Hp → Prop} (hs : Sat post (fT_copyMarks h0 x1 x2)) : Mt mT_copyMarks 1 [.inr 1, .inl x1, .inl x2] h0 post := by
  refine mt_body (L := [(0, .inr 1), (1, .inl x1), (2, .inl x2)]) (by decide +kernel) (Nat.le_of_ble_eq_true rfl) rfl ?_
  refine ev_aload_n (pc := 0) dT_copyMarks_0 0 rfl rfl ?_
  refine ev_iload_n (pc := 1) dT_copyMarks_1 2 rfl rfl ?_
  refine ev_bipush (pc := 2) (v := 8) dT_copyMarks_2 (by decide) ?_
  refine ev_callV (pc := 4) (As := [.inl x2, .inl 8]) (S := []) (d2 := 0) dT_copyMarks_4 vT_69 zT_copyFact rfl rfl rfl rfl (Nat.le_of_ble_eq_true rfl) (Nat.le_of_ble_eq_true rfl) rfl rfl (fun p1 hz => cT_copyFact hz) hs (fun r4 h4 hs => ?_)
  refine ev_istore_n (pc := 7) (L' := [(0, .inr 1), (1, .inl x1), (2, .inl x2), (3, .inl r4)]) dT_copyMarks_7 rfl rfl (Nat.le_of_ble_eq_true rfl) rfl ?_
  refine ev_aload_n (pc := 8) dT_copyMarks_8 0 rfl rfl ?_
  refine ev_iload_n (pc := 9) dT_copyMarks_9 2 rfl rfl ?_
  refine ev_bipush (pc := 10) (v := 9) dT_copyMarks_10 (by decide) ?_
  refine ev_callV (pc := 12) (As := [.inl x2, .inl 9]) (S := []) (d2 := 0) dT_copyMarks_12 vT_69 zT_copyFact rfl rfl rfl rfl (Nat.le_of_ble_eq_true rfl) (Nat.le_of_ble_eq_true rfl) rfl rfl (fun p1 hz => cT_copyFact hz) hs (fun r12 h12 hs => ?_)
  refine ev_istore (pc := 15) (L' := [(0, .inr 1), (1, .inl x1), (2, .inl x2), (3, .inl r4), (4, .inl r12)]) dT_copyMarks_15 rfl (Nat.le_of_ble_eq_true rfl) rfl ?_
  refine ev_iload_n (pc := 17) dT_copyMarks_17 3 rfl rfl ?_
  refine ev_aload_n (pc := 18) dT_copyMarks_18 0 rfl rfl ?_
  refine ev_iload_n (pc := 19) dT_copyMarks_19 1 rfl rfl ?_
  refine ev_bipush (pc := 20) (v := 8) dT_copyMarks_20 (by decide) ?_
  refine ev_callV (pc := 22) (As := [.inl x1, .inl 8]) (S := [.inl r4]) (d2 := 0) dT_copyMarks_22 vT_69 zT_copyFact rfl rfl rfl rfl (Nat.le_of_ble_eq_true rfl) (Nat.le_of_ble_eq_true rfl) rfl rfl (fun p1 hz => cT_copyFact hz) hs (fun r22 h22 hs => ?_)
  refine ev_ixor (pc := 25) dT_copyMarks_25 ?_
  refine ev_bnd hs (fun v26 hs => ?_)
  refine ev_istore (pc := 26) (L' := [(0, .inr 1), (1, .inl x1), (2, .inl x2), (3, .inl r4), (4, .inl r12), (5, .inl v26)]) dT_copyMarks_26 rfl (Nat.le_of_ble_eq_true rfl) rfl ?_
  refine ev_iload (pc := 28) dT_copyMarks_28 5 rfl ?_
  refine ev_iload (pc := 30) dT_copyMarks_30 4 rfl ?_
  refine ev_aload_n (pc := 32) dT_copyMarks_32 0 rfl rfl ?_
  refine ev_iload_n (pc := 33) dT_copyMarks_33 1 rfl rfl ?_
  refine ev_bipush (pc := 34) (v := 9) dT_copyMarks_34 (by decide) ?_
  refine ev_callV (pc := 36) (As := [.inl x1, .inl 9]) (S := [.inl r12, .inl v26]) (d2 := 0) dT_copyMarks_36 vT_69 zT_copyFact rfl rfl rfl rfl (Nat.le_of_ble_eq_true rfl) (Nat.le_of_ble_eq_true rfl) rfl rfl (fun p1 hz => cT_copyFact hz) hs (fun r36 h36 hs => ?_)
  refine ev_ixor (pc := 39) dT_copyMarks_39 ?_
  refine ev_ior (pc := 40) dT_copyMarks_40 ?_
  refine ev_bnd hs (fun v41 hs => ?_)
  refine ev_istore (pc := 41) (L' := [(0, .inr 1), (1, .inl x1), (2, .inl x2), (3, .inl r4), (4, .inl r12), (5, .inl v41)]) dT_copyMarks_41 rfl (Nat.le_of_ble_eq_true rfl) rfl ?_
  refine ev_aload_n (pc := 43) dT_copyMarks_43 0 rfl rfl ?_
  refine ev_iload_n (pc := 44) dT_copyMarks_44 1 rfl rfl ?_
  refine ev_bipush (pc := 45) (v := 8) dT_copyMarks_45 (by decide) ?_
  refine ev_iload_n (pc := 47) dT_copyMarks_47 3 rfl rfl ?_
  refine ev_callVv (pc := 48) (As := [.inl x1, .inl 8, .inl r4]) (S := []) (d2 := 0) dT_copyMarks_48 vT_72 zT_putCopyFact rfl rfl rfl rfl (Nat.le_of_ble_eq_true rfl) (Nat.le_of_ble_eq_true rfl) rfl rfl (fun p1 hz => cT_putCopyFact hz) hs (fun r48 h48 hs => ?_)
  refine ev_aload_n (pc := 51) dT_copyMarks_51 0 rfl rfl ?_
  refine ev_iload_n (pc := 52) dT_copyMarks_52 1 rfl rfl ?_
  refine ev_bipush (pc := 53) (v := 9) dT_copyMarks_53 (by decide) ?_
  refine ev_iload (pc := 55) dT_copyMarks_55 4 rfl ?_
  refine ev_callVv (pc := 57) (As := [.inl x1, .inl 9, .inl r12]) (S := []) (d2 := 0) dT_copyMarks_57 vT_72 zT_putCopyFact rfl rfl rfl rfl (Nat.le_of_ble_eq_true rfl) (Nat.le_of_ble_eq_true rfl) rfl rfl (fun p1 hz => cT_putCopyFact hz) hs (fun r57 h57 hs => ?_)
  refine ev_iload (pc := 60) dT_copyMarks_60 5 rfl ?_
  refine ev_callS (pc := 62) (As := [.inl v41]) (S := []) (d2 := 0) dT_copyMarks_62 (Or.inl vT_75) zJ_bitCount rfl (Nat.le_of_ble_eq_true rfl) (Nat.le_of_ble_eq_true rfl) rfl rfl (fun p1 hz => cJ_bitCount hz) hs (fun r62 h62 hs => ?_)
  exact ev_iret rfl dT_copyMarks_65 hs
set_option maxHeartbeats 4000000 in
set_option maxRecDepth 100000 in
theorem cX_isShade {h0 : Hp} {x0 : Int32} {post : Int32 → Hp → Prop} (hs : Sat post (fX_isShade h0 x0)) : Mt mX_isShade 1 [.inl x0] h0 post := by
  refine mt_body (L := [(0, .inl x0)]) (by decide +kernel) (Nat.le_of_ble_eq_true rfl) rfl ?_
  refine ev_iload_n (pc := 0) dX_isShade_0 0 rfl rfl ?_
  refine ev_iconst (pc := 1) (v := 0) dX_isShade_1 (by decide) ?_
  refine ev_iconst (pc := 2) (v := 5) dX_isShade_2 (by decide) ?_
  refine ev_callS (pc := 3) (As := [.inl x0, .inl 0, .inl 5]) (S := []) (d2 := 0) dX_isShade_3 (Or.inl vX_41) zX_isWithin rfl (Nat.le_of_ble_eq_true rfl) (Nat.le_of_ble_eq_true rfl) rfl rfl (fun p1 hz => cX_isWithin hz) hs (fun r3 h3 hs => ?_)
  exact ev_zret rfl dX_isShade_6 hs
set_option maxHeartbeats 4000000 in
set_option maxRecDepth 100000 in
theorem cT_hasPiece {h0 : Hp} {x1 : Int32} {post : Int32 → Hp → Prop} (hs : Sat post (fT_hasPiece h0 x1)) : Mt mT_hasPiece 1 [.inr 1, .inl x1] h0 post := by
  refine mt_body (L := [(0, .inr 1), (1, .inl x1)]) (by decide +kernel) (Nat.le_of_ble_eq_true rfl) rfl ?_
  refine ev_iload_n (pc := 0) dT_hasPiece_0 1 rfl rfl ?_
  refine ev_iconst (pc := 1) (v := 0) dT_hasPiece_1 (by decide) ?_
  refine ev_aload_n (pc := 2) dT_hasPiece_2 0 rfl rfl ?_
  refine ev_getI (pc := 3) dT_hasPiece_3 lT_18 rfl rfl ?_
  refine ev_iconst (pc := 6) (v := 1) dT_hasPiece_6 (by decide) ?_
  refine ev_isub (pc := 7) dT_hasPiece_7 ?_
  refine ev_callS (pc := 8) (As := [.inl x1, .inl 0, .inl ((h0 1 2) - 1)]) (S := []) (d2 := 0) dT_hasPiece_8 (Or.inr vT_47) zX_isWithin rfl (Nat.le_of_ble_eq_true rfl) (Nat.le_of_ble_eq_true rfl) rfl rfl (fun p1 hz => cX_isWithin hz) hs (fun r8 h8 hs => ?_)
  exact ev_zret rfl dT_hasPiece_11 hs
set_option maxHeartbeats 4000000 in
set_option maxRecDepth 100000 in
theorem cT_isOut {h0 : Hp} {x1 : Int32} {post : Int32 → Hp → Prop} (hs : Sat post (fT_isOut h0 x1)) : Mt mT_isOut 1 [.inr 1, .inl x1] h0 post := by
  refine mt_body (L := [(0, .inr 1), (1, .inl x1)]) (by decide +kernel) (Nat.le_of_ble_eq_true rfl) rfl ?_
  refine ev_aload_n (pc := 0) dT_isOut_0 0 rfl rfl ?_
  refine ev_iload_n (pc := 1) dT_isOut_1 1 rfl rfl ?_
  refine ev_iconst (pc := 2) (v := 5) dT_isOut_2 (by decide) ?_
  refine ev_callV (pc := 3) (As := [.inl x1, .inl 5]) (S := []) (d2 := 0) dT_isOut_3 vT_55 zT_pieceFact rfl rfl rfl rfl (Nat.le_of_ble_eq_true rfl) (Nat.le_of_ble_eq_true rfl) rfl rfl (fun p1 hz => cT_pieceFact hz) hs (fun r3 h3 hs => ?_)
  refine ev_iconst (pc := 6) (v := 1) dT_isOut_6 (by decide) ?_
  refine ev_icmp_ne (pc := 7) (tgt := 14) dT_isOut_7 (by decide) hs (fun hs => ?_) (fun hs => ?_)
  · refine ev_iconst (pc := 14) (v := 0) dT_isOut_14 (by decide) ?_
    exact ev_zret rfl dT_isOut_15 hs
  · refine ev_iconst (pc := 10) (v := 1) dT_isOut_10 (by decide) ?_
    refine ev_goto (pc := 11) (tgt := 15) dT_isOut_11 (by decide) ?_
    exact ev_zret rfl dT_isOut_15 hs
set_option maxHeartbeats 4000000 in
set_option maxRecDepth 100000 in
theorem cT_putOut {h0 : Hp} {x1 : Int32} {x2 : Int32} {post : Int32 → Hp → Prop} (hs : Sat post (fT_putOut h0 x1 x2)) : Mt mT_putOut 0 [.inr 1, .inl x1, .inl x2] h0 post := by
  refine mt_body (L := [(0, .inr 1), (1, .inl x1), (2, .inl x2)]) (by decide +kernel) (Nat.le_of_ble_eq_true rfl) rfl ?_
  refine ev_aload_n (pc := 0) dT_putOut_0 0 rfl rfl ?_
  refine ev_getR (pc := 1) dT_putOut_1 lT_27 rfl rfl ?_
  refine ev_iload_n (pc := 4) dT_putOut_4 1 rfl rfl ?_
  refine ev_bipush (pc := 5) (v := 6) dT_putOut_5 (by decide) ?_
  refine ev_imul (pc := 7) dT_putOut_7 ?_
  refine ev_iconst (pc := 8) (v := 5) dT_putOut_8 (by decide) ?_
  refine ev_iadd (pc := 9) dT_putOut_9 ?_
  refine ev_iload_n (pc := 10) dT_putOut_10 2 rfl rfl ?_
  refine ev_jn (fun (j : Int32 → Hp → RO) => ∀ (s19 : Int32) (h19 : Hp), Sat post (j s19 h19) → Ev mT_putOut 0 19 [] [.inl s19, .inl ((x1 * 6) + 5), .inr 6] h19 post) hs (fun s19 h19 hs => ?_) (fun j19 hj19 hs => ?_)
  · refine ev_iast (pc := 19) dT_putOut_19 hs (fun h19 hs => ?_)
    exact ev_vret rfl dT_putOut_20 hs
  refine ev_if_eq (pc := 11) (tgt := 18) dT_putOut_11 (by decide) hs (fun hs => ?_) (fun hs => ?_)
  · refine ev_iconst (pc := 18) (v := 0) dT_putOut_18 (by decide) ?_
    refine ev_sub [] [] rfl ?_
    exact hj19 _ _ hs
  · refine ev_iconst (pc := 14) (v := 1) dT_putOut_14 (by decide) ?_
    refine ev_goto (pc := 15) (tgt := 19) dT_putOut_15 (by decide) ?_
    refine ev_sub [] [] rfl ?_
    exact hj19 _ _ hs
set_option maxHeartbeats 4000000 in
set_option maxRecDepth 100000 in
theorem cT_hasBar {h0 : Hp} {x1 : Int32} {x2 : Int32} {post : Int32 → Hp → Prop} (hs : Sat post (fT_hasBar h0 x1 x2)) : Mt mT_hasBar 1 [.inr 1, .inl x1, .inl x2] h0 post := by
  refine mt_body (L := [(0, .inr 1), (1, .inl x1), (2, .inl x2)]) (by decide +kernel) (Nat.le_of_ble_eq_true rfl) rfl ?_
  refine ev_aload_n (pc := 0) dT_hasBar_0 0 rfl rfl ?_
  refine ev_getR (pc := 1) dT_hasBar_1 lT_34 rfl rfl ?_
  refine ev_iload_n (pc := 4) dT_hasBar_4 1 rfl rfl ?_
  refine ev_iald (pc := 5) dT_hasBar_5 hs (fun r5 hs => ?_)
  refine ev_iload_n (pc := 6) dT_hasBar_6 2 rfl rfl ?_
  refine ev_callS (pc := 7) (As := [.inl r5, .inl x2]) (S := []) (d2 := 0) dT_hasBar_7 (Or.inr vT_59) zX_isIn rfl (Nat.le_of_ble_eq_true rfl) (Nat.le_of_ble_eq_true rfl) rfl rfl (fun p1 hz => cX_isIn hz) hs (fun r7 h7 hs => ?_)
  exact ev_zret rfl dT_hasBar_10 hs
set_option maxHeartbeats 4000000 in
set_option maxRecDepth 100000 in
theorem cT_addBar {h0 : Hp} {x1 : Int32} {x2 : Int32} {post : Int32 → Hp → Prop} (hs : Sat post (fT_addBar h0 x1 x2)) : Mt mT_addBar 0 [.inr 1, .inl x1, .inl x2] h0 post := by
  refine mt_body (L := [(0, .inr 1), (1, .inl x1), (2, .inl x2)]) (by decide +kernel) (Nat.le_of_ble_eq_true rfl) rfl ?_
  refine ev_aload_n (pc := 0) dT_addBar_0 0 rfl rfl ?_
  refine ev_getR (pc := 1) dT_addBar_1 lT_34 rfl rfl ?_
  refine ev_iload_n (pc := 4) dT_addBar_4 1 rfl rfl ?_
  refine ev_dup2 (pc := 5) dT_addBar_5 ?_
  refine ev_iald (pc := 6) dT_addBar_6 hs (fun r6 hs => ?_)
  refine ev_iconst (pc := 7) (v := 1) dT_addBar_7 (by decide) ?_
  refine ev_iload_n (pc := 8) dT_addBar_8 2 rfl rfl ?_
  refine ev_ishl (pc := 9) dT_addBar_9 ?_
  refine ev_ior (pc := 10) dT_addBar_10 ?_
  refine ev_iast (pc := 11) dT_addBar_11 hs (fun h11 hs => ?_)
  refine ev_aload_n (pc := 12) dT_addBar_12 0 rfl rfl ?_
  refine ev_getR (pc := 13) dT_addBar_13 lT_34 rfl rfl ?_
  refine ev_iload_n (pc := 16) dT_addBar_16 2 rfl rfl ?_
  refine ev_dup2 (pc := 17) dT_addBar_17 ?_
  refine ev_iald (pc := 18) dT_addBar_18 hs (fun r18 hs => ?_)
  refine ev_iconst (pc := 19) (v := 1) dT_addBar_19 (by decide) ?_
  refine ev_iload_n (pc := 20) dT_addBar_20 1 rfl rfl ?_
  refine ev_ishl (pc := 21) dT_addBar_21 ?_
  refine ev_ior (pc := 22) dT_addBar_22 ?_
  refine ev_iast (pc := 23) dT_addBar_23 hs (fun h23 hs => ?_)
  refine ev_aload_n (pc := 24) dT_addBar_24 0 rfl rfl ?_
  refine ev_dup (pc := 25) dT_addBar_25 ?_
  refine ev_getI (pc := 26) dT_addBar_26 lT_24 rfl rfl ?_
  refine ev_iconst (pc := 29) (v := 1) dT_addBar_29 (by decide) ?_
  refine ev_iadd (pc := 30) dT_addBar_30 ?_
  refine ev_putI (pc := 31) dT_addBar_31 lT_24 w2_4 rfl rfl hs (fun h31 hs => ?_)
  refine ev_aload_n (pc := 34) dT_addBar_34 0 rfl rfl ?_
  refine ev_getI (pc := 35) dT_addBar_35 lT_24 rfl rfl ?_
  exact ev_iret rfl dT_addBar_38 hs
set_option maxHeartbeats 4000000 in
set_option maxRecDepth 100000 in
theorem cJ_fill_L5 {x1 : Int32} {x3 : Int32} {a0 : Nat} {post : Int32 → Hp → Prop}  : ∀ (n : Nat) (x2_5 : Int32) (h5 : Hp), Sat post (fJ_fill_L5 x1 x3 a0 n x2_5 h5) → Ev mJ_fill 0 5 [(0, .inr a0), (1, .inl x1), (2, .inl x2_5), (3, .inl x3)] [] h5 post := by
  intro n
  induction n with
  | zero =>
    intro x2_5 h5 hs
    exact False.elim hs
  | succ n ih =>
    intro x2_5 h5 hs
    refine ev_iload_n (pc := 5) dJ_fill_5 2 rfl rfl ?_
    refine ev_iload_n (pc := 6) dJ_fill_6 3 rfl rfl ?_
    refine ev_icmp_ge (pc := 7) (tgt := 20) dJ_fill_7 (by decide) hs (fun hs => ?_) (fun hs => ?_)
    · exact ev_vret rfl dJ_fill_20 hs
    · refine ev_aload_n (pc := 10) dJ_fill_10 0 rfl rfl ?_
      refine ev_iload_n (pc := 11) dJ_fill_11 2 rfl rfl ?_
      refine ev_iload_n (pc := 12) dJ_fill_12 1 rfl rfl ?_
      refine ev_iast (pc := 13) dJ_fill_13 hs (fun h13 hs => ?_)
      refine ev_iinc (pc := 14) (L' := [(0, .inr a0), (1, .inl x1), (2, .inl (x2_5 + 1)), (3, .inl x3)]) (v := (x2_5 + 1)) dJ_fill_14 2 rfl (congrArg (HAdd.hAdd _) (by decide)) rfl (Nat.le_of_ble_eq_true rfl) rfl ?_
      refine ev_goto (pc := 17) (tgt := 5) dJ_fill_17 (by decide) ?_
      exact ih _ _ hs
set_option maxHeartbeats 4000000 in
set_option maxRecDepth 100000 in
theorem cJ_fill {h0 : Hp} {a0 : Nat} {x1 : Int32} {post : Int32 → Hp → Prop} (hs : Sat post (fJ_fill h0 a0 x1)) : Mt mJ_fill 0 [.inr a0, .inl x1] h0 post := by
  refine mt_body (L := [(0, .inr a0), (1, .inl x1)]) (by decide +kernel) (Nat.le_of_ble_eq_true rfl) rfl ?_
  refine ev_iconst (pc := 0) (v := 0) dJ_fill_0 (by decide) ?_
  refine ev_istore_n (pc := 1) (L' := [(0, .inr a0), (1, .inl x1), (2, .inl 0)]) dJ_fill_1 rfl rfl (Nat.le_of_ble_eq_true rfl) rfl ?_
  refine ev_aload_n (pc := 2) dJ_fill_2 0 rfl rfl ?_
  refine ev_aln (pc := 3) dJ_fill_3 hs (fun n3 hs => ?_)
  refine ev_istore_n (pc := 4) (L' := [(0, .inr a0), (1, .inl x1), (2, .inl 0), (3, .inl n3)]) dJ_fill_4 rfl rfl (Nat.le_of_ble_eq_true rfl) rfl ?_
  exact cJ_fill_L5  _ _ _ hs
set_option maxHeartbeats 4000000 in
set_option maxRecDepth 100000 in
theorem cT_freeBars {h0 : Hp}  {post : Int32 → Hp → Prop} (hs : Sat post (fT_freeBars h0 )) : Mt mT_freeBars 1 [.inr 1] h0 post := by
  refine mt_body (L := [(0, .inr 1)]) (by decide +kernel) (Nat.le_of_ble_eq_true rfl) rfl ?_
  refine ev_aload_n (pc := 0) dT_freeBars_0 0 rfl rfl ?_
  refine ev_getI (pc := 1) dT_freeBars_1 lT_24 rfl rfl ?_
  refine ev_bnd hs (fun v4 hs => ?_)
  refine ev_istore_n (pc := 4) (L' := [(0, .inr 1), (1, .inl v4)]) dT_freeBars_4 rfl rfl (Nat.le_of_ble_eq_true rfl) rfl ?_
  refine ev_aload_n (pc := 5) dT_freeBars_5 0 rfl rfl ?_
  refine ev_getR (pc := 6) dT_freeBars_6 lT_34 rfl rfl ?_
  refine ev_iconst (pc := 9) (v := 0) dT_freeBars_9 (by decide) ?_
  refine ev_callSv (pc := 10) (As := [.inr 8, .inl 0]) (S := []) (d2 := 0) dT_freeBars_10 (Or.inl vT_63) zJ_fill rfl (Nat.le_of_ble_eq_true rfl) (Nat.le_of_ble_eq_true rfl) rfl rfl (fun p1 hz => cJ_fill hz) hs (fun r10 h10 hs => ?_)
  refine ev_aload_n (pc := 13) dT_freeBars_13 0 rfl rfl ?_
  refine ev_iconst (pc := 14) (v := 0) dT_freeBars_14 (by decide) ?_
  refine ev_putI (pc := 15) dT_freeBars_15 lT_24 w2_4 rfl rfl hs (fun h15 hs => ?_)
  refine ev_iload_n (pc := 18) dT_freeBars_18 1 rfl rfl ?_
  exact ev_iret rfl dT_freeBars_19 hs
set_option maxHeartbeats 4000000 in
set_option maxRecDepth 100000 in
theorem cT_isBarred_L2 {x1 : Int32} {post : Int32 → Hp → Prop}  : ∀ (n : Nat) (x2_2 : Int32) (h2 : Hp), Sat post (fT_isBarred_L2 x1 n x2_2 h2) → Ev mT_isBarred 0 2 [(0, .inr 1), (1, .inl x1), (2, .inl x2_2)] [] h2 post := by
  intro n
  induction n with
  | zero =>
    intro x2_2 h2 hs
    exact False.elim hs
  | succ n ih =>
    intro x2_2 h2 hs
    refine ev_iload_n (pc := 2) dT_isBarred_2 2 rfl rfl ?_
    refine ev_bipush (pc := 3) (v := 8) dT_isBarred_3 (by decide) ?_
    refine ev_icmp_ge (pc := 5) (tgt := 36) dT_isBarred_5 (by decide) hs (fun hs => ?_) (fun hs => ?_)
    · refine ev_iconst (pc := 36) (v := 0) dT_isBarred_36 (by decide) ?_
      exact ev_zret rfl dT_isBarred_37 hs
    · refine ev_iload_n (pc := 8) dT_isBarred_8 1 rfl rfl ?_
      refine ev_iload_n (pc := 9) dT_isBarred_9 2 rfl rfl ?_
      refine ev_ishr (pc := 10) dT_isBarred_10 ?_
      refine ev_iconst (pc := 11) (v := 1) dT_isBarred_11 (by decide) ?_
      refine ev_iand (pc := 12) dT_isBarred_12 ?_
      refine ev_iconst (pc := 13) (v := 1) dT_isBarred_13 (by decide) ?_
      refine ev_jn (fun (j : Hp → RO) => ∀  (h30 : Hp), Sat post (j h30) → Ev mT_isBarred 0 30 [(0, .inr 1), (1, .inl x1), (2, .inl x2_2)] [] h30 post) hs (fun h30 hs => ?_) (fun j30 hj30 hs => ?_)
      · refine ev_iinc (pc := 30) (L' := [(0, .inr 1), (1, .inl x1), (2, .inl (x2_2 + 1))]) (v := (x2_2 + 1)) dT_isBarred_30 2 rfl (congrArg (HAdd.hAdd _) (by decide)) rfl (Nat.le_of_ble_eq_true rfl) rfl ?_
        refine ev_goto (pc := 33) (tgt := 2) dT_isBarred_33 (by decide) ?_
        exact ih _ _ hs
      refine ev_icmp_ne (pc := 14) (tgt := 30) dT_isBarred_14 (by decide) hs (fun hs => ?_) (fun hs => ?_)
      · exact hj30 _ hs
      · refine ev_iload_n (pc := 17) dT_isBarred_17 1 rfl rfl ?_
        refine ev_aload_n (pc := 18) dT_isBarred_18 0 rfl rfl ?_
        refine ev_getR (pc := 19) dT_isBarred_19 lT_34 rfl rfl ?_
        refine ev_iload_n (pc := 22) dT_isBarred_22 2 rfl rfl ?_
        refine ev_iald (pc := 23) dT_isBarred_23 hs (fun r23 hs => ?_)
        refine ev_iand (pc := 24) dT_isBarred_24 ?_
        refine ev_if_eq (pc := 25) (tgt := 30) dT_isBarred_25 (by decide) hs (fun hs => ?_) (fun hs => ?_)
        · exact hj30 _ hs
        · refine ev_iconst (pc := 28) (v := 1) dT_isBarred_28 (by decide) ?_
          exact ev_zret rfl dT_isBarred_29 hs
set_option maxHeartbeats 4000000 in
set_option maxRecDepth 100000 in
theorem cT_isBarred {h0 : Hp} {x1 : Int32} {post : Int32 → Hp → Prop} (hs : Sat post (fT_isBarred h0 x1)) : Mt mT_isBarred 0 [.inr 1, .inl x1] h0 post := by
  refine mt_body (L := [(0, .inr 1), (1, .inl x1)]) (by decide +kernel) (Nat.le_of_ble_eq_true rfl) rfl ?_
  refine ev_iconst (pc := 0) (v := 0) dT_isBarred_0 (by decide) ?_
  refine ev_istore_n (pc := 1) (L' := [(0, .inr 1), (1, .inl x1), (2, .inl 0)]) dT_isBarred_1 rfl rfl (Nat.le_of_ble_eq_true rfl) rfl ?_
  exact cT_isBarred_L2  _ _ _ hs
set_option maxHeartbeats 4000000 in
set_option maxRecDepth 100000 in
theorem cT_isForged_L14 {x2 : Int32} {post : Int32 → Hp → Prop}  : ∀ (n : Nat) (x3_14 : Int32) (h14 : Hp), Sat post (fT_isForged_L14 x2 n x3_14 h14) → Ev mT_isForged 1 14 [(0, .inr 1), (2, .inl x2), (3, .inl x3_14)] [] h14 post := by
  intro n
  induction n with
  | zero =>
    intro x3_14 h14 hs
    exact False.elim hs
  | succ n ih =>
    intro x3_14 h14 hs
    refine ev_iload_n (pc := 14) dT_isForged_14 2 rfl rfl ?_
    refine ev_iload_n (pc := 15) dT_isForged_15 1 rfl rfl ?_
    refine ev_icmp_ge (pc := 16) (tgt := 41) dT_isForged_16 (by decide) hs (fun hs => ?_) (fun hs => ?_)
    · refine ev_iconst (pc := 41) (v := 0) dT_isForged_41 (by decide) ?_
      exact ev_zret rfl dT_isForged_42 hs
    · refine ev_aload_n (pc := 19) dT_isForged_19 0 rfl rfl ?_
      refine ev_aload_n (pc := 20) dT_isForged_20 0 rfl rfl ?_
      refine ev_iload_n (pc := 21) dT_isForged_21 2 rfl rfl ?_
      refine ev_bipush (pc := 22) (v := 8) dT_isForged_22 (by decide) ?_
      refine ev_callV (pc := 24) (As := [.inl x3_14, .inl 8]) (S := [.inr 1]) (d2 := 0) dT_isForged_24 vT_69 zT_copyFact rfl rfl rfl rfl (Nat.le_of_ble_eq_true rfl) (Nat.le_of_ble_eq_true rfl) rfl rfl (fun p1 hz => cT_copyFact hz) hs (fun r24 h24 hs => ?_)
      refine ev_callV (pc := 27) (As := [.inl r24]) (S := []) (d2 := 0) dT_isForged_27 vT_81 zT_isBarred rfl rfl rfl rfl (Nat.le_of_ble_eq_true rfl) (Nat.le_of_ble_eq_true rfl) rfl rfl (fun p1 hz => cT_isBarred hz) hs (fun r27 h27 hs => ?_)
      refine ev_if_eq (pc := 30) (tgt := 35) dT_isForged_30 (by decide) hs (fun hs => ?_) (fun hs => ?_)
      · refine ev_iinc (pc := 35) (L' := [(0, .inr 1), (2, .inl x2), (3, .inl (x3_14 + 1))]) (v := (x3_14 + 1)) dT_isForged_35 2 rfl (congrArg (HAdd.hAdd _) (by decide)) rfl (Nat.le_of_ble_eq_true rfl) rfl ?_
        refine ev_goto (pc := 38) (tgt := 14) dT_isForged_38 (by decide) ?_
        exact ih _ _ hs
      · refine ev_iconst (pc := 33) (v := 1) dT_isForged_33 (by decide) ?_
        exact ev_zret rfl dT_isForged_34 hs
set_option maxHeartbeats 4000000 in
set_option maxRecDepth 100000 in
theorem cT_isForged {h0 : Hp} {x1 : Int32} {post : Int32 → Hp → Prop} (hs : Sat post (fT_isForged h0 x1)) : Mt mT_isForged 1 [.inr 1, .inl x1] h0 post := by
  refine mt_body (L := [(0, .inr 1), (1, .inl x1)]) (by decide +kernel) (Nat.le_of_ble_eq_true rfl) rfl ?_
  refine ev_aload_n (pc := 0) dT_isForged_0 0 rfl rfl ?_
  refine ev_iload_n (pc := 1) dT_isForged_1 1 rfl rfl ?_
  refine ev_iconst (pc := 2) (v := 4) dT_isForged_2 (by decide) ?_
  refine ev_callV (pc := 3) (As := [.inl x1, .inl 4]) (S := []) (d2 := 0) dT_isForged_3 vT_55 zT_pieceFact rfl rfl rfl rfl (Nat.le_of_ble_eq_true rfl) (Nat.le_of_ble_eq_true rfl) rfl rfl (fun p1 hz => cT_pieceFact hz) hs (fun r3 h3 hs => ?_)
  refine ev_istore_n (pc := 6) (L' := [(0, .inr 1), (1, .inl x1), (2, .inl r3)]) dT_isForged_6 rfl rfl (Nat.le_of_ble_eq_true rfl) rfl ?_
  refine ev_aload_n (pc := 7) dT_isForged_7 0 rfl rfl ?_
  refine ev_iload_n (pc := 8) dT_isForged_8 1 rfl rfl ?_
  refine ev_iconst (pc := 9) (v := 3) dT_isForged_9 (by decide) ?_
  refine ev_callV (pc := 10) (As := [.inl x1, .inl 3]) (S := []) (d2 := 0) dT_isForged_10 vT_55 zT_pieceFact rfl rfl rfl rfl (Nat.le_of_ble_eq_true rfl) (Nat.le_of_ble_eq_true rfl) rfl rfl (fun p1 hz => cT_pieceFact hz) hs (fun r10 h10 hs => ?_)
  refine ev_istore_n (pc := 13) (L' := [(0, .inr 1), (1, .inl x1), (2, .inl r3), (3, .inl r10)]) dT_isForged_13 rfl rfl (Nat.le_of_ble_eq_true rfl) rfl ?_
  refine ev_sub [(0, .inr 1), (2, .inl r3), (3, .inl r10)] [0, 2, 3] rfl ?_
  exact cT_isForged_L14  _ _ _ hs
set_option maxHeartbeats 4000000 in
set_option maxRecDepth 100000 in
theorem cT_takesPart {h0 : Hp} {x1 : Int32} {post : Int32 → Hp → Prop} (hs : Sat post (fT_takesPart h0 x1)) : Mt mT_takesPart 2 [.inr 1, .inl x1] h0 post := by
  refine mt_body (L := [(0, .inr 1), (1, .inl x1)]) (by decide +kernel) (Nat.le_of_ble_eq_true rfl) rfl ?_
  refine ev_aload_n (pc := 0) dT_takesPart_0 0 rfl rfl ?_
  refine ev_iload_n (pc := 1) dT_takesPart_1 1 rfl rfl ?_
  refine ev_callV (pc := 2) (As := [.inl x1]) (S := []) (d2 := 1) dT_takesPart_2 vT_85 zT_isOut rfl rfl rfl rfl (Nat.le_of_ble_eq_true rfl) (Nat.le_of_ble_eq_true rfl) rfl rfl (fun p1 hz => cT_isOut hz) hs (fun r2 h2 hs => ?_)
  refine ev_if_ne (pc := 5) (tgt := 20) dT_takesPart_5 (by decide) hs (fun hs => ?_) (fun hs => ?_)
  · refine ev_iconst (pc := 20) (v := 0) dT_takesPart_20 (by decide) ?_
    exact ev_zret rfl dT_takesPart_21 hs
  · refine ev_aload_n (pc := 8) dT_takesPart_8 0 rfl rfl ?_
    refine ev_iload_n (pc := 9) dT_takesPart_9 1 rfl rfl ?_
    refine ev_callV (pc := 10) (As := [.inl x1]) (S := []) (d2 := 1) dT_takesPart_10 vT_88 zT_isForged rfl rfl rfl rfl (Nat.le_of_ble_eq_true rfl) (Nat.le_of_ble_eq_true rfl) rfl rfl (fun p1 hz => cT_isForged hz) hs (fun r10 h10 hs => ?_)
    refine ev_if_ne (pc := 13) (tgt := 20) dT_takesPart_13 (by decide) hs (fun hs => ?_) (fun hs => ?_)
    · refine ev_iconst (pc := 20) (v := 0) dT_takesPart_20 (by decide) ?_
      exact ev_zret rfl dT_takesPart_21 hs
    · refine ev_iconst (pc := 16) (v := 1) dT_takesPart_16 (by decide) ?_
      refine ev_goto (pc := 17) (tgt := 21) dT_takesPart_17 (by decide) ?_
      exact ev_zret rfl dT_takesPart_21 hs
set_option maxHeartbeats 4000000 in
set_option maxRecDepth 100000 in
theorem cT_keepsMargins {h0 : Hp} {x1 : Int32} {x2 : Int32} {x3 : Int32} {post : Int32 → Hp → Prop} (hs : Sat post (fT_keepsMargins h0 x1 x2 x3)) : Mt mT_keepsMargins 1 [.inr 1, .inl x1, .inl x2, .inl x3] h0 post := by
  refine mt_body (L := [(0, .inr 1), (1, .inl x1), (2, .inl x2), (3, .inl x3)]) (by decide +kernel) (Nat.le_of_ble_eq_true rfl) rfl ?_
  refine ev_aload_n (pc := 0) dT_keepsMargins_0 0 rfl rfl ?_
  refine ev_iload_n (pc := 1) dT_keepsMargins_1 1 rfl rfl ?_
  refine ev_iconst (pc := 2) (v := 2) dT_keepsMargins_2 (by decide) ?_
  refine ev_callV (pc := 3) (As := [.inl x1, .inl 2]) (S := []) (d2 := 0) dT_keepsMargins_3 vT_55 zT_pieceFact rfl rfl rfl rfl (Nat.le_of_ble_eq_true rfl) (Nat.le_of_ble_eq_true rfl) rfl rfl (fun p1 hz => cT_pieceFact hz) hs (fun r3 h3 hs => ?_)
  refine ev_istore (pc := 6) (L' := [(0, .inr 1), (1, .inl x1), (2, .inl x2), (3, .inl x3), (4, .inl r3)]) dT_keepsMargins_6 rfl (Nat.le_of_ble_eq_true rfl) rfl ?_
  refine ev_iconst (pc := 8) (v := 0) dT_keepsMargins_8 (by decide) ?_
  refine ev_istore (pc := 9) (L' := [(0, .inr 1), (1, .inl x1), (2, .inl x2), (3, .inl x3), (4, .inl r3), (5, .inl 0)]) dT_keepsMargins_9 rfl (Nat.le_of_ble_eq_true rfl) rfl ?_
  refine ev_iload (pc := 11) dT_keepsMargins_11 5 rfl ?_
  refine ev_iload_n (pc := 13) dT_keepsMargins_13 2 rfl rfl ?_
  refine ev_jn (fun (j : Int32 → Hp → RO) => ∀ (s22 : Int32) (h22 : Hp), Sat post (j s22 h22) → Ev mT_keepsMargins 1 22 [(0, .inr 1), (1, .inl x1), (2, .inl x2), (3, .inl x3), (4, .inl r3)] [.inl s22, .inl 0] h22 post) hs (fun s22 h22 hs => ?_) (fun j22 hj22 hs => ?_)
  · refine ev_ior (pc := 22) dT_keepsMargins_22 ?_
    refine ev_bnd hs (fun v23 hs => ?_)
    refine ev_istore (pc := 23) (L' := [(0, .inr 1), (1, .inl x1), (2, .inl x2), (3, .inl x3), (4, .inl r3), (5, .inl v23)]) dT_keepsMargins_23 rfl (Nat.le_of_ble_eq_true rfl) rfl ?_
    refine ev_iload (pc := 25) dT_keepsMargins_25 5 rfl ?_
    refine ev_iload_n (pc := 27) dT_keepsMargins_27 3 rfl rfl ?_
    refine ev_jn (fun (j : Int32 → Hp → RO) => ∀ (s36 : Int32) (h36 : Hp), Sat post (j s36 h36) → Ev mT_keepsMargins 1 36 [(0, .inr 1), (1, .inl x1), (2, .inl x2), (3, .inl x3), (4, .inl r3)] [.inl s36, .inl v23] h36 post) hs (fun s36 h36 hs => ?_) (fun j36 hj36 hs => ?_)
    · refine ev_ior (pc := 36) dT_keepsMargins_36 ?_
      refine ev_bnd hs (fun v37 hs => ?_)
      refine ev_istore (pc := 37) (L' := [(0, .inr 1), (1, .inl x1), (2, .inl x2), (3, .inl x3), (4, .inl r3), (5, .inl v37)]) dT_keepsMargins_37 rfl (Nat.le_of_ble_eq_true rfl) rfl ?_
      refine ev_iload (pc := 39) dT_keepsMargins_39 5 rfl ?_
      refine ev_iload_n (pc := 41) dT_keepsMargins_41 2 rfl rfl ?_
      refine ev_aload_n (pc := 42) dT_keepsMargins_42 0 rfl rfl ?_
      refine ev_iload_n (pc := 43) dT_keepsMargins_43 1 rfl rfl ?_
      refine ev_iconst (pc := 44) (v := 0) dT_keepsMargins_44 (by decide) ?_
      refine ev_callV (pc := 45) (As := [.inl x1, .inl 0]) (S := [.inl x2, .inl v37]) (d2 := 0) dT_keepsMargins_45 vT_55 zT_pieceFact rfl rfl rfl rfl (Nat.le_of_ble_eq_true rfl) (Nat.le_of_ble_eq_true rfl) rfl rfl (fun p1 hz => cT_pieceFact hz) hs (fun r45 h45 hs => ?_)
      refine ev_iadd (pc := 48) dT_keepsMargins_48 ?_
      refine ev_aload_n (pc := 49) dT_keepsMargins_49 0 rfl rfl ?_
      refine ev_getI (pc := 50) dT_keepsMargins_50 lT_9 rfl rfl ?_
      refine ev_jn (fun (j : Int32 → Hp → RO) => ∀ (s61 : Int32) (h61 : Hp), Sat post (j s61 h61) → Ev mT_keepsMargins 1 61 [(0, .inr 1), (1, .inl x1), (3, .inl x3), (4, .inl r3)] [.inl s61, .inl v37] h61 post) hs (fun s61 h61 hs => ?_) (fun j61 hj61 hs => ?_)
      · refine ev_ior (pc := 61) dT_keepsMargins_61 ?_
        refine ev_bnd hs (fun v62 hs => ?_)
        refine ev_istore (pc := 62) (L' := [(0, .inr 1), (1, .inl x1), (3, .inl x3), (4, .inl r3), (5, .inl v62)]) dT_keepsMargins_62 rfl (Nat.le_of_ble_eq_true rfl) rfl ?_
        refine ev_iload (pc := 64) dT_keepsMargins_64 4 rfl ?_
        refine ev_iload_n (pc := 66) dT_keepsMargins_66 2 rfl rfl ?_
        refine ev_aload_n (pc := 67) dT_keepsMargins_67 0 rfl rfl ?_
        refine ev_iload_n (pc := 68) dT_keepsMargins_68 1 rfl rfl ?_
        refine ev_iconst (pc := 69) (v := 1) dT_keepsMargins_69 (by decide) ?_
        refine ev_callV (pc := 70) (As := [.inl x1, .inl 1]) (S := [.inl x3, .inl v62]) (d2 := 0) dT_keepsMargins_70 vT_55 zT_pieceFact rfl rfl rfl rfl (Nat.le_of_ble_eq_true rfl) (Nat.le_of_ble_eq_true rfl) rfl rfl (fun p1 hz => cT_pieceFact hz) hs (fun r70 h70 hs => ?_)
        refine ev_iadd (pc := 73) dT_keepsMargins_73 ?_
        refine ev_aload_n (pc := 74) dT_keepsMargins_74 0 rfl rfl ?_
        refine ev_getI (pc := 75) dT_keepsMargins_75 lT_15 rfl rfl ?_
        refine ev_jn (fun (j : Int32 → Hp → RO) => ∀ (s87 : Int32) (h87 : Hp), Sat post (j s87 h87) → Ev mT_keepsMargins 1 87 [(4, .inl r3)] [.inl s87, .inl v62] h87 post) hs (fun s87 h87 hs => ?_) (fun j87 hj87 hs => ?_)
        · refine ev_ior (pc := 87) dT_keepsMargins_87 ?_
          refine ev_bnd hs (fun v88 hs => ?_)
          refine ev_istore (pc := 88) (L' := [(4, .inl r3), (5, .inl v88)]) dT_keepsMargins_88 rfl (Nat.le_of_ble_eq_true rfl) rfl ?_
          refine ev_iload (pc := 90) dT_keepsMargins_90 0 rfl ?_
          refine ev_iload (pc := 92) dT_keepsMargins_92 1 rfl ?_
          refine ev_iand (pc := 94) dT_keepsMargins_94 ?_
          refine ev_iload (pc := 95) dT_keepsMargins_95 0 rfl ?_
          refine ev_icmp_ne (pc := 97) (tgt := 104) dT_keepsMargins_97 (by decide) hs (fun hs => ?_) (fun hs => ?_)
          · refine ev_iconst (pc := 104) (v := 0) dT_keepsMargins_104 (by decide) ?_
            exact ev_zret rfl dT_keepsMargins_105 hs
          · refine ev_iconst (pc := 100) (v := 1) dT_keepsMargins_100 (by decide) ?_
            refine ev_goto (pc := 101) (tgt := 105) dT_keepsMargins_101 (by decide) ?_
            exact ev_zret rfl dT_keepsMargins_105 hs
        refine ev_icmp_ne (pc := 78) (tgt := 86) dT_keepsMargins_78 (by decide) hs (fun hs => ?_) (fun hs => ?_)
        · refine ev_iconst (pc := 86) (v := 0) dT_keepsMargins_86 (by decide) ?_
          refine ev_sub [(4, .inl r3)] [3] rfl ?_
          exact hj87 _ _ hs
        · refine ev_bipush (pc := 81) (v := 8) dT_keepsMargins_81 (by decide) ?_
          refine ev_goto (pc := 83) (tgt := 87) dT_keepsMargins_83 (by decide) ?_
          refine ev_sub [(4, .inl r3)] [3] rfl ?_
          exact hj87 _ _ hs
      refine ev_icmp_ne (pc := 53) (tgt := 60) dT_keepsMargins_53 (by decide) hs (fun hs => ?_) (fun hs => ?_)
      · refine ev_iconst (pc := 60) (v := 0) dT_keepsMargins_60 (by decide) ?_
        refine ev_sub [(0, .inr 1), (1, .inl x1), (3, .inl x3), (4, .inl r3)] [0, 1, 3, 4] rfl ?_
        exact hj61 _ _ hs
      · refine ev_iconst (pc := 56) (v := 4) dT_keepsMargins_56 (by decide) ?_
        refine ev_goto (pc := 57) (tgt := 61) dT_keepsMargins_57 (by decide) ?_
        refine ev_sub [(0, .inr 1), (1, .inl x1), (3, .inl x3), (4, .inl r3)] [0, 1, 3, 4] rfl ?_
        exact hj61 _ _ hs
    refine ev_if_ne (pc := 28) (tgt := 35) dT_keepsMargins_28 (by decide) hs (fun hs => ?_) (fun hs => ?_)
    · refine ev_iconst (pc := 35) (v := 0) dT_keepsMargins_35 (by decide) ?_
      refine ev_sub [(0, .inr 1), (1, .inl x1), (2, .inl x2), (3, .inl x3), (4, .inl r3)] [0, 1, 2, 3, 4] rfl ?_
      exact hj36 _ _ hs
    · refine ev_iconst (pc := 31) (v := 2) dT_keepsMargins_31 (by decide) ?_
      refine ev_goto (pc := 32) (tgt := 36) dT_keepsMargins_32 (by decide) ?_
      refine ev_sub [(0, .inr 1), (1, .inl x1), (2, .inl x2), (3, .inl x3), (4, .inl r3)] [0, 1, 2, 3, 4] rfl ?_
      exact hj36 _ _ hs
  refine ev_if_ne (pc := 14) (tgt := 21) dT_keepsMargins_14 (by decide) hs (fun hs => ?_) (fun hs => ?_)
  · refine ev_iconst (pc := 21) (v := 0) dT_keepsMargins_21 (by decide) ?_
    refine ev_sub [(0, .inr 1), (1, .inl x1), (2, .inl x2), (3, .inl x3), (4, .inl r3)] [0, 1, 2, 3, 4] rfl ?_
    exact hj22 _ _ hs
  · refine ev_iconst (pc := 17) (v := 1) dT_keepsMargins_17 (by decide) ?_
    refine ev_goto (pc := 18) (tgt := 22) dT_keepsMargins_18 (by decide) ?_
    refine ev_sub [(0, .inr 1), (1, .inl x1), (2, .inl x2), (3, .inl x3), (4, .inl r3)] [0, 1, 2, 3, 4] rfl ?_
    exact hj22 _ _ hs
set_option maxHeartbeats 4000000 in
set_option maxRecDepth 100000 in
theorem cT_keepsLetters_L16 {x2 : Int32} {x3 : Int32} {x4 : Int32} {post : Int32 → Hp → Prop}  : ∀ (n : Nat) (x5_16 : Int32) (h16 : Hp), Sat post (fT_keepsLetters_L16 x2 x3 x4 n x5_16 h16) → Ev mT_keepsLetters 1 16 [(0, .inr 1), (2, .inl x2), (3, .inl x3), (4, .inl x4), (5, .inl x5_16)] [] h16 post := by
  intro n
  induction n with
  | zero =>
    intro x5_16 h16 hs
    exact False.elim hs
  | succ n ih =>
    intro x5_16 h16 hs
    refine ev_iload (pc := 16) dT_keepsLetters_16 4 rfl ?_
    refine ev_iload (pc := 18) dT_keepsLetters_18 3 rfl ?_
    refine ev_icmp_ge (pc := 20) (tgt := 91) dT_keepsLetters_20 (by decide) hs (fun hs => ?_) (fun hs => ?_)
    · refine ev_iconst (pc := 91) (v := 1) dT_keepsLetters_91 (by decide) ?_
      exact ev_zret rfl dT_keepsLetters_92 hs
    · refine ev_aload_n (pc := 23) dT_keepsLetters_23 0 rfl rfl ?_
      refine ev_iload (pc := 24) dT_keepsLetters_24 4 rfl ?_
      refine ev_iconst (pc := 26) (v := 3) dT_keepsLetters_26 (by decide) ?_
      refine ev_callV (pc := 27) (As := [.inl x5_16, .inl 3]) (S := []) (d2 := 0) dT_keepsLetters_27 vT_69 zT_copyFact rfl rfl rfl rfl (Nat.le_of_ble_eq_true rfl) (Nat.le_of_ble_eq_true rfl) rfl rfl (fun p1 hz => cT_copyFact hz) hs (fun r27 h27 hs => ?_)
      refine ev_istore (pc := 30) (L' := [(0, .inr 1), (2, .inl x2), (3, .inl x3), (4, .inl x4), (5, .inl x5_16), (6, .inl r27)]) dT_keepsLetters_30 rfl (Nat.le_of_ble_eq_true rfl) rfl ?_
      refine ev_aload_n (pc := 32) dT_keepsLetters_32 0 rfl rfl ?_
      refine ev_iload (pc := 33) dT_keepsLetters_33 4 rfl ?_
      refine ev_iconst (pc := 35) (v := 4) dT_keepsLetters_35 (by decide) ?_
      refine ev_callV (pc := 36) (As := [.inl x5_16, .inl 4]) (S := []) (d2 := 0) dT_keepsLetters_36 vT_69 zT_copyFact rfl rfl rfl rfl (Nat.le_of_ble_eq_true rfl) (Nat.le_of_ble_eq_true rfl) rfl rfl (fun p1 hz => cT_copyFact hz) hs (fun r36 h36 hs => ?_)
      refine ev_istore (pc := 39) (L' := [(0, .inr 1), (2, .inl x2), (3, .inl x3), (4, .inl x4), (5, .inl x5_16), (6, .inl r27), (7, .inl r36)]) dT_keepsLetters_39 rfl (Nat.le_of_ble_eq_true rfl) rfl ?_
      refine ev_iload (pc := 41) dT_keepsLetters_41 5 rfl ?_
      refine ev_iconst (pc := 43) (v := (-1)) dT_keepsLetters_43 (by decide) ?_
      refine ev_jn (fun (j : Hp → RO) => ∀  (h63 : Hp), Sat post (j h63) → Ev mT_keepsLetters 1 63 [(0, .inr 1), (2, .inl x2), (3, .inl x3), (4, .inl x4), (5, .inl x5_16), (7, .inl r36)] [] h63 post) hs (fun h63 hs => ?_) (fun j63 hj63 hs => ?_)
      · refine ev_iload (pc := 63) dT_keepsLetters_63 5 rfl ?_
        refine ev_iconst (pc := 65) (v := (-1)) dT_keepsLetters_65 (by decide) ?_
        refine ev_jn (fun (j : Hp → RO) => ∀  (h85 : Hp), Sat post (j h85) → Ev mT_keepsLetters 1 85 [(0, .inr 1), (2, .inl x2), (3, .inl x3), (4, .inl x4), (5, .inl x5_16)] [] h85 post) hs (fun h85 hs => ?_) (fun j85 hj85 hs => ?_)
        · refine ev_iinc (pc := 85) (L' := [(0, .inr 1), (2, .inl x2), (3, .inl x3), (4, .inl x4), (5, .inl (x5_16 + 1))]) (v := (x5_16 + 1)) dT_keepsLetters_85 4 rfl (congrArg (HAdd.hAdd _) (by decide)) rfl (Nat.le_of_ble_eq_true rfl) rfl ?_
          refine ev_goto (pc := 88) (tgt := 16) dT_keepsLetters_88 (by decide) ?_
          exact ih _ _ hs
        refine ev_icmp_eq (pc := 66) (tgt := 85) dT_keepsLetters_66 (by decide) hs (fun hs => ?_) (fun hs => ?_)
        · refine ev_sub [(0, .inr 1), (2, .inl x2), (3, .inl x3), (4, .inl x4), (5, .inl x5_16)] [0, 1, 2, 3, 4] rfl ?_
          exact hj85 _ hs
        · refine ev_iload (pc := 69) dT_keepsLetters_69 5 rfl ?_
          refine ev_iload_n (pc := 71) dT_keepsLetters_71 2 rfl rfl ?_
          refine ev_aload_n (pc := 72) dT_keepsLetters_72 0 rfl rfl ?_
          refine ev_iload (pc := 73) dT_keepsLetters_73 4 rfl ?_
          refine ev_iconst (pc := 75) (v := 2) dT_keepsLetters_75 (by decide) ?_
          refine ev_callV (pc := 76) (As := [.inl x5_16, .inl 2]) (S := [.inl x3, .inl r36]) (d2 := 0) dT_keepsLetters_76 vT_69 zT_copyFact rfl rfl rfl rfl (Nat.le_of_ble_eq_true rfl) (Nat.le_of_ble_eq_true rfl) rfl rfl (fun p1 hz => cT_copyFact hz) hs (fun r76 h76 hs => ?_)
          refine ev_iadd (pc := 79) dT_keepsLetters_79 ?_
          refine ev_icmp_eq (pc := 80) (tgt := 85) dT_keepsLetters_80 (by decide) hs (fun hs => ?_) (fun hs => ?_)
          · refine ev_sub [(0, .inr 1), (2, .inl x2), (3, .inl x3), (4, .inl x4), (5, .inl x5_16)] [0, 1, 2, 3, 4] rfl ?_
            exact hj85 _ hs
          · refine ev_iconst (pc := 83) (v := 0) dT_keepsLetters_83 (by decide) ?_
            exact ev_zret rfl dT_keepsLetters_84 hs
      refine ev_icmp_eq (pc := 44) (tgt := 63) dT_keepsLetters_44 (by decide) hs (fun hs => ?_) (fun hs => ?_)
      · refine ev_sub [(0, .inr 1), (2, .inl x2), (3, .inl x3), (4, .inl x4), (5, .inl x5_16), (7, .inl r36)] [0, 1, 2, 3, 4, 6] rfl ?_
        exact hj63 _ hs
      · refine ev_iload (pc := 47) dT_keepsLetters_47 5 rfl ?_
        refine ev_iload_n (pc := 49) dT_keepsLetters_49 1 rfl rfl ?_
        refine ev_aload_n (pc := 50) dT_keepsLetters_50 0 rfl rfl ?_
        refine ev_iload (pc := 51) dT_keepsLetters_51 4 rfl ?_
        refine ev_iconst (pc := 53) (v := 1) dT_keepsLetters_53 (by decide) ?_
        refine ev_callV (pc := 54) (As := [.inl x5_16, .inl 1]) (S := [.inl x2, .inl r27]) (d2 := 0) dT_keepsLetters_54 vT_69 zT_copyFact rfl rfl rfl rfl (Nat.le_of_ble_eq_true rfl) (Nat.le_of_ble_eq_true rfl) rfl rfl (fun p1 hz => cT_copyFact hz) hs (fun r54 h54 hs => ?_)
        refine ev_iadd (pc := 57) dT_keepsLetters_57 ?_
        refine ev_icmp_eq (pc := 58) (tgt := 63) dT_keepsLetters_58 (by decide) hs (fun hs => ?_) (fun hs => ?_)
        · refine ev_sub [(0, .inr 1), (2, .inl x2), (3, .inl x3), (4, .inl x4), (5, .inl x5_16), (7, .inl r36)] [0, 1, 2, 3, 4, 6] rfl ?_
          exact hj63 _ hs
        · refine ev_iconst (pc := 61) (v := 0) dT_keepsLetters_61 (by decide) ?_
          exact ev_zret rfl dT_keepsLetters_62 hs
set_option maxHeartbeats 4000000 in
set_option maxRecDepth 100000 in
theorem cT_keepsLetters {h0 : Hp} {x1 : Int32} {x2 : Int32} {x3 : Int32} {post : Int32 → Hp → Prop} (hs : Sat post (fT_keepsLetters h0 x1 x2 x3)) : Mt mT_keepsLetters 1 [.inr 1, .inl x1, .inl x2, .inl x3] h0 post := by
  refine mt_body (L := [(0, .inr 1), (1, .inl x1), (2, .inl x2), (3, .inl x3)]) (by decide +kernel) (Nat.le_of_ble_eq_true rfl) rfl ?_
  refine ev_aload_n (pc := 0) dT_keepsLetters_0 0 rfl rfl ?_
  refine ev_iload_n (pc := 1) dT_keepsLetters_1 1 rfl rfl ?_
  refine ev_iconst (pc := 2) (v := 4) dT_keepsLetters_2 (by decide) ?_
  refine ev_callV (pc := 3) (As := [.inl x1, .inl 4]) (S := []) (d2 := 0) dT_keepsLetters_3 vT_55 zT_pieceFact rfl rfl rfl rfl (Nat.le_of_ble_eq_true rfl) (Nat.le_of_ble_eq_true rfl) rfl rfl (fun p1 hz => cT_pieceFact hz) hs (fun r3 h3 hs => ?_)
  refine ev_istore (pc := 6) (L' := [(0, .inr 1), (1, .inl x1), (2, .inl x2), (3, .inl x3), (4, .inl r3)]) dT_keepsLetters_6 rfl (Nat.le_of_ble_eq_true rfl) rfl ?_
  refine ev_aload_n (pc := 8) dT_keepsLetters_8 0 rfl rfl ?_
  refine ev_iload_n (pc := 9) dT_keepsLetters_9 1 rfl rfl ?_
  refine ev_iconst (pc := 10) (v := 3) dT_keepsLetters_10 (by decide) ?_
  refine ev_callV (pc := 11) (As := [.inl x1, .inl 3]) (S := []) (d2 := 0) dT_keepsLetters_11 vT_55 zT_pieceFact rfl rfl rfl rfl (Nat.le_of_ble_eq_true rfl) (Nat.le_of_ble_eq_true rfl) rfl rfl (fun p1 hz => cT_pieceFact hz) hs (fun r11 h11 hs => ?_)
  refine ev_istore (pc := 14) (L' := [(0, .inr 1), (1, .inl x1), (2, .inl x2), (3, .inl x3), (4, .inl r3), (5, .inl r11)]) dT_keepsLetters_14 rfl (Nat.le_of_ble_eq_true rfl) rfl ?_
  refine ev_sub [(0, .inr 1), (2, .inl x2), (3, .inl x3), (4, .inl r3), (5, .inl r11)] [0, 2, 3, 4, 5] rfl ?_
  exact cT_keepsLetters_L16  _ _ _ hs
set_option maxHeartbeats 4000000 in
set_option maxRecDepth 100000 in
theorem cT_spotsOf_L39 {k92 : Int32 → Hp → RO} {x1 : Int32} {x2 : Int32} {x3 : Int32} {x5 : Int32} {post : Int32 → Hp → Prop} (hk92 : ∀ (y4 : Int32) (h : Hp), Sat post (k92 y4 h) → Ev mT_spotsOf 2 92 [(0, .inr 1), (1, .inl x1), (2, .inl x2), (3, .inl x3), (4, .inl y4), (5, .inl x5)] [] h post) : ∀ (n : Nat) (x4_39 : Int32) (x6_39 : Int32) (h39 : Hp), Sat post (fT_spotsOf_L39 k92 x1 x2 x3 x5 n x4_39 x6_39 h39) → Ev mT_spotsOf 2 39 [(0, .inr 1), (1, .inl x1), (2, .inl x2), (3, .inl x3), (4, .inl x4_39), (5, .inl x5), (6, .inl x6_39)] [] h39 post := by
  intro n
  induction n with
  | zero =>
    intro x4_39 x6_39 h39 hs
    exact False.elim hs
  | succ n ih =>
    intro x4_39 x6_39 h39 hs
    refine ev_iload (pc := 39) dT_spotsOf_39 6 rfl ?_
    refine ev_iload_n (pc := 41) dT_spotsOf_41 3 rfl rfl ?_
    refine ev_icmp_gt (pc := 42) (tgt := 92) dT_spotsOf_42 (by decide) hs (fun hs => ?_) (fun hs => ?_)
    · refine ev_sub [(0, .inr 1), (1, .inl x1), (2, .inl x2), (3, .inl x3), (4, .inl x4_39), (5, .inl x5)] [0, 1, 2, 3, 4, 5] rfl ?_
      exact hk92 _ _ hs
    · refine ev_aload_n (pc := 45) dT_spotsOf_45 0 rfl rfl ?_
      refine ev_iload_n (pc := 46) dT_spotsOf_46 1 rfl rfl ?_
      refine ev_iload (pc := 47) dT_spotsOf_47 5 rfl ?_
      refine ev_iload (pc := 49) dT_spotsOf_49 6 rfl ?_
      refine ev_callV (pc := 51) (As := [.inl x1, .inl x5, .inl x6_39]) (S := []) (d2 := 1) dT_spotsOf_51 vT_94 zT_keepsMargins rfl rfl rfl rfl (Nat.le_of_ble_eq_true rfl) (Nat.le_of_ble_eq_true rfl) rfl rfl (fun p1 hz => cT_keepsMargins hz) hs (fun r51 h51 hs => ?_)
      refine ev_jn (fun (j : Int32 → Hp → RO) => ∀ (x4_86 : Int32) (h86 : Hp), Sat post (j x4_86 h86) → Ev mT_spotsOf 2 86 [(0, .inr 1), (1, .inl x1), (2, .inl x2), (3, .inl x3), (4, .inl x4_86), (5, .inl x5), (6, .inl x6_39)] [] h86 post) hs (fun x4_86 h86 hs => ?_) (fun j86 hj86 hs => ?_)
      · refine ev_iinc (pc := 86) (L' := [(0, .inr 1), (1, .inl x1), (2, .inl x2), (3, .inl x3), (4, .inl x4_86), (5, .inl x5), (6, .inl (x6_39 + 1))]) (v := (x6_39 + 1)) dT_spotsOf_86 6 rfl (congrArg (HAdd.hAdd _) (by decide)) rfl (Nat.le_of_ble_eq_true rfl) rfl ?_
        refine ev_goto (pc := 89) (tgt := 39) dT_spotsOf_89 (by decide) ?_
        exact ih _ _ _ hs
      refine ev_if_eq (pc := 54) (tgt := 86) dT_spotsOf_54 (by decide) hs (fun hs => ?_) (fun hs => ?_)
      · exact hj86 _ _ hs
      · refine ev_aload_n (pc := 57) dT_spotsOf_57 0 rfl rfl ?_
        refine ev_iload_n (pc := 58) dT_spotsOf_58 1 rfl rfl ?_
        refine ev_iload (pc := 59) dT_spotsOf_59 5 rfl ?_
        refine ev_iload (pc := 61) dT_spotsOf_61 6 rfl ?_
        refine ev_callV (pc := 63) (As := [.inl x1, .inl x5, .inl x6_39]) (S := []) (d2 := 1) dT_spotsOf_63 vT_97 zT_keepsLetters rfl rfl rfl rfl (Nat.le_of_ble_eq_true rfl) (Nat.le_of_ble_eq_true rfl) rfl rfl (fun p1 hz => cT_keepsLetters hz) hs (fun r63 h63 hs => ?_)
        refine ev_if_eq (pc := 66) (tgt := 86) dT_spotsOf_66 (by decide) hs (fun hs => ?_) (fun hs => ?_)
        · exact hj86 _ _ hs
        · refine ev_iload (pc := 69) dT_spotsOf_69 4 rfl ?_
          refine ev_iconst (pc := 71) (v := 1) dT_spotsOf_71 (by decide) ?_
          refine ev_iload (pc := 72) dT_spotsOf_72 5 rfl ?_
          refine ev_aload_n (pc := 74) dT_spotsOf_74 0 rfl rfl ?_
          refine ev_getI (pc := 75) dT_spotsOf_75 lT_15 rfl rfl ?_
          refine ev_imul (pc := 78) dT_spotsOf_78 ?_
          refine ev_iload (pc := 79) dT_spotsOf_79 6 rfl ?_
          refine ev_iadd (pc := 81) dT_spotsOf_81 ?_
          refine ev_ishl (pc := 82) dT_spotsOf_82 ?_
          refine ev_ior (pc := 83) dT_spotsOf_83 ?_
          refine ev_bnd hs (fun v84 hs => ?_)
          refine ev_istore (pc := 84) (L' := [(0, .inr 1), (1, .inl x1), (2, .inl x2), (3, .inl x3), (4, .inl v84), (5, .inl x5), (6, .inl x6_39)]) dT_spotsOf_84 rfl (Nat.le_of_ble_eq_true rfl) rfl ?_
          exact hj86 _ _ hs
set_option maxHeartbeats 4000000 in
set_option maxRecDepth 100000 in
theorem cT_spotsOf_L30 {x1 : Int32} {x2 : Int32} {x3 : Int32} {post : Int32 → Hp → Prop}  : ∀ (n : Nat) (x4_30 : Int32) (x5_30 : Int32) (h30 : Hp), Sat post (fT_spotsOf_L30 x1 x2 x3 n x4_30 x5_30 h30) → Ev mT_spotsOf 2 30 [(0, .inr 1), (1, .inl x1), (2, .inl x2), (3, .inl x3), (4, .inl x4_30), (5, .inl x5_30)] [] h30 post := by
  intro n
  induction n with
  | zero =>
    intro x4_30 x5_30 h30 hs
    exact False.elim hs
  | succ n ih =>
    intro x4_30 x5_30 h30 hs
    refine ev_iload (pc := 30) dT_spotsOf_30 5 rfl ?_
    refine ev_iload_n (pc := 32) dT_spotsOf_32 2 rfl rfl ?_
    refine ev_icmp_gt (pc := 33) (tgt := 98) dT_spotsOf_33 (by decide) hs (fun hs => ?_) (fun hs => ?_)
    · refine ev_iload (pc := 98) dT_spotsOf_98 4 rfl ?_
      exact ev_iret rfl dT_spotsOf_100 hs
    · refine ev_iconst (pc := 36) (v := 0) dT_spotsOf_36 (by decide) ?_
      refine ev_istore (pc := 37) (L' := [(0, .inr 1), (1, .inl x1), (2, .inl x2), (3, .inl x3), (4, .inl x4_30), (5, .inl x5_30), (6, .inl 0)]) dT_spotsOf_37 rfl (Nat.le_of_ble_eq_true rfl) rfl ?_
      refine cT_spotsOf_L39 (fun x4_92 h92 hs => ?_) _ _ _ _ hs
      refine ev_iinc (pc := 92) (L' := [(0, .inr 1), (1, .inl x1), (2, .inl x2), (3, .inl x3), (4, .inl x4_92), (5, .inl (x5_30 + 1))]) (v := (x5_30 + 1)) dT_spotsOf_92 5 rfl (congrArg (HAdd.hAdd _) (by decide)) rfl (Nat.le_of_ble_eq_true rfl) rfl ?_
      refine ev_goto (pc := 95) (tgt := 30) dT_spotsOf_95 (by decide) ?_
      exact ih _ _ _ hs
set_option maxHeartbeats 4000000 in
set_option maxRecDepth 100000 in
theorem cT_spotsOf {h0 : Hp} {x1 : Int32} {post : Int32 → Hp → Prop} (hs : Sat post (fT_spotsOf h0 x1)) : Mt mT_spotsOf 2 [.inr 1, .inl x1] h0 post := by
  refine mt_body (L := [(0, .inr 1), (1, .inl x1)]) (by decide +kernel) (Nat.le_of_ble_eq_true rfl) rfl ?_
  refine ev_aload_n (pc := 0) dT_spotsOf_0 0 rfl rfl ?_
  refine ev_getI (pc := 1) dT_spotsOf_1 lT_9 rfl rfl ?_
  refine ev_aload_n (pc := 4) dT_spotsOf_4 0 rfl rfl ?_
  refine ev_iload_n (pc := 5) dT_spotsOf_5 1 rfl rfl ?_
  refine ev_iconst (pc := 6) (v := 0) dT_spotsOf_6 (by decide) ?_
  refine ev_callV (pc := 7) (As := [.inl x1, .inl 0]) (S := [.inl (h0 1 0)]) (d2 := 0) dT_spotsOf_7 vT_55 zT_pieceFact rfl rfl rfl rfl (Nat.le_of_ble_eq_true rfl) (Nat.le_of_ble_eq_true rfl) rfl rfl (fun p1 hz => cT_pieceFact hz) hs (fun r7 h7 hs => ?_)
  refine ev_isub (pc := 10) dT_spotsOf_10 ?_
  refine ev_bnd hs (fun v11 hs => ?_)
  refine ev_istore_n (pc := 11) (L' := [(0, .inr 1), (1, .inl x1), (2, .inl v11)]) dT_spotsOf_11 rfl rfl (Nat.le_of_ble_eq_true rfl) rfl ?_
  refine ev_aload_n (pc := 12) dT_spotsOf_12 0 rfl rfl ?_
  refine ev_getI (pc := 13) dT_spotsOf_13 lT_15 rfl rfl ?_
  refine ev_aload_n (pc := 16) dT_spotsOf_16 0 rfl rfl ?_
  refine ev_iload_n (pc := 17) dT_spotsOf_17 1 rfl rfl ?_
  refine ev_iconst (pc := 18) (v := 1) dT_spotsOf_18 (by decide) ?_
  refine ev_callV (pc := 19) (As := [.inl x1, .inl 1]) (S := [.inl (h7 1 1)]) (d2 := 0) dT_spotsOf_19 vT_55 zT_pieceFact rfl rfl rfl rfl (Nat.le_of_ble_eq_true rfl) (Nat.le_of_ble_eq_true rfl) rfl rfl (fun p1 hz => cT_pieceFact hz) hs (fun r19 h19 hs => ?_)
  refine ev_isub (pc := 22) dT_spotsOf_22 ?_
  refine ev_bnd hs (fun v23 hs => ?_)
  refine ev_istore_n (pc := 23) (L' := [(0, .inr 1), (1, .inl x1), (2, .inl v11), (3, .inl v23)]) dT_spotsOf_23 rfl rfl (Nat.le_of_ble_eq_true rfl) rfl ?_
  refine ev_iconst (pc := 24) (v := 0) dT_spotsOf_24 (by decide) ?_
  refine ev_istore (pc := 25) (L' := [(0, .inr 1), (1, .inl x1), (2, .inl v11), (3, .inl v23), (4, .inl 0)]) dT_spotsOf_25 rfl (Nat.le_of_ble_eq_true rfl) rfl ?_
  refine ev_iconst (pc := 27) (v := 0) dT_spotsOf_27 (by decide) ?_
  refine ev_istore (pc := 28) (L' := [(0, .inr 1), (1, .inl x1), (2, .inl v11), (3, .inl v23), (4, .inl 0), (5, .inl 0)]) dT_spotsOf_28 rfl (Nat.le_of_ble_eq_true rfl) rfl ?_
  exact cT_spotsOf_L30  _ _ _ _ hs
set_option maxHeartbeats 4000000 in
set_option maxRecDepth 100000 in
theorem cT_offsetOf {h0 : Hp} {x1 : Int32} {post : Int32 → Hp → Prop} (hs : Sat post (fT_offsetOf h0 x1)) : Mt mT_offsetOf 1 [.inr 1, .inl x1] h0 post := by
  refine mt_body (L := [(0, .inr 1), (1, .inl x1)]) (by decide +kernel) (Nat.le_of_ble_eq_true rfl) rfl ?_
  refine ev_aload_n (pc := 0) dT_offsetOf_0 0 rfl rfl ?_
  refine ev_iload_n (pc := 1) dT_offsetOf_1 1 rfl rfl ?_
  refine ev_iconst (pc := 2) (v := 1) dT_offsetOf_2 (by decide) ?_
  refine ev_callV (pc := 3) (As := [.inl x1, .inl 1]) (S := []) (d2 := 0) dT_offsetOf_3 vT_69 zT_copyFact rfl rfl rfl rfl (Nat.le_of_ble_eq_true rfl) (Nat.le_of_ble_eq_true rfl) rfl rfl (fun p1 hz => cT_copyFact hz) hs (fun r3 h3 hs => ?_)
  refine ev_aload_n (pc := 6) dT_offsetOf_6 0 rfl rfl ?_
  refine ev_getI (pc := 7) dT_offsetOf_7 lT_15 rfl rfl ?_
  refine ev_imul (pc := 10) dT_offsetOf_10 ?_
  refine ev_aload_n (pc := 11) dT_offsetOf_11 0 rfl rfl ?_
  refine ev_iload_n (pc := 12) dT_offsetOf_12 1 rfl rfl ?_
  refine ev_iconst (pc := 13) (v := 2) dT_offsetOf_13 (by decide) ?_
  refine ev_callV (pc := 14) (As := [.inl x1, .inl 2]) (S := [.inl (r3 * (h3 1 1))]) (d2 := 0) dT_offsetOf_14 vT_69 zT_copyFact rfl rfl rfl rfl (Nat.le_of_ble_eq_true rfl) (Nat.le_of_ble_eq_true rfl) rfl rfl (fun p1 hz => cT_copyFact hz) hs (fun r14 h14 hs => ?_)
  refine ev_iadd (pc := 17) dT_offsetOf_17 ?_
  exact ev_iret rfl dT_offsetOf_18 hs
set_option maxHeartbeats 4000000 in
set_option maxRecDepth 100000 in
theorem cJ_rangeCheck {h0 : Hp} {x0 : Int32} {x1 : Int32} {x2 : Int32} {post : Int32 → Hp → Prop} (hs : Sat post (fJ_rangeCheck h0 x0 x1 x2)) : Mt mJ_rangeCheck 0 [.inl x0, .inl x1, .inl x2] h0 post := by
  refine mt_body (L := [(0, .inl x0), (1, .inl x1), (2, .inl x2)]) (by decide +kernel) (Nat.le_of_ble_eq_true rfl) rfl ?_
  refine ev_iload_n (pc := 0) dJ_rangeCheck_0 1 rfl rfl ?_
  refine ev_iload_n (pc := 1) dJ_rangeCheck_1 2 rfl rfl ?_
  refine ev_icmp_le (pc := 2) (tgt := 46) dJ_rangeCheck_2 (by decide) hs (fun hs => ?_) (fun hs => ?_)
  · refine ev_iload_n (pc := 46) dJ_rangeCheck_46 1 rfl rfl ?_
    refine ev_if_ge (pc := 47) (tgt := 59) dJ_rangeCheck_47 (by decide) hs (fun hs => ?_) (fun hs => ?_)
    · refine ev_iload_n (pc := 59) dJ_rangeCheck_59 2 rfl rfl ?_
      refine ev_iload_n (pc := 60) dJ_rangeCheck_60 0 rfl rfl ?_
      refine ev_icmp_le (pc := 61) (tgt := 73) dJ_rangeCheck_61 (by decide) hs (fun hs => ?_) (fun hs => ?_)
      · exact ev_vret rfl dJ_rangeCheck_73 hs
      · exact False.elim hs
    · exact False.elim hs
  · exact False.elim hs
set_option maxHeartbeats 4000000 in
set_option maxRecDepth 100000 in
theorem cJ_fill4_L10 {x2 : Int32} {x3 : Int32} {a0 : Nat} {post : Int32 → Hp → Prop}  : ∀ (n : Nat) (x4_10 : Int32) (h10 : Hp), Sat post (fJ_fill4_L10 x2 x3 a0 n x4_10 h10) → Ev mJ_fill4 1 10 [(0, .inr a0), (2, .inl x2), (3, .inl x3), (4, .inl x4_10)] [] h10 post := by
  intro n
  induction n with
  | zero =>
    intro x4_10 h10 hs
    exact False.elim hs
  | succ n ih =>
    intro x4_10 h10 hs
    refine ev_iload (pc := 10) dJ_fill4_10 3 rfl ?_
    refine ev_iload_n (pc := 12) dJ_fill4_12 1 rfl rfl ?_
    refine ev_icmp_ge (pc := 13) (tgt := 27) dJ_fill4_13 (by decide) hs (fun hs => ?_) (fun hs => ?_)
    · exact ev_vret rfl dJ_fill4_27 hs
    · refine ev_aload_n (pc := 16) dJ_fill4_16 0 rfl rfl ?_
      refine ev_iload (pc := 17) dJ_fill4_17 3 rfl ?_
      refine ev_iload_n (pc := 19) dJ_fill4_19 2 rfl rfl ?_
      refine ev_iast (pc := 20) dJ_fill4_20 hs (fun h20 hs => ?_)
      refine ev_iinc (pc := 21) (L' := [(0, .inr a0), (2, .inl x2), (3, .inl x3), (4, .inl (x4_10 + 1))]) (v := (x4_10 + 1)) dJ_fill4_21 3 rfl (congrArg (HAdd.hAdd _) (by decide)) rfl (Nat.le_of_ble_eq_true rfl) rfl ?_
      refine ev_goto (pc := 24) (tgt := 10) dJ_fill4_24 (by decide) ?_
      exact ih _ _ hs
set_option maxHeartbeats 4000000 in
set_option maxRecDepth 100000 in
theorem cJ_fill4 {h0 : Hp} {a0 : Nat} {x1 : Int32} {x2 : Int32} {x3 : Int32} {post : Int32 → Hp → Prop} (hs : Sat post (fJ_fill4 h0 a0 x1 x2 x3)) : Mt mJ_fill4 1 [.inr a0, .inl x1, .inl x2, .inl x3] h0 post := by
  refine mt_body (L := [(0, .inr a0), (1, .inl x1), (2, .inl x2), (3, .inl x3)]) (by decide +kernel) (Nat.le_of_ble_eq_true rfl) rfl ?_
  refine ev_aload_n (pc := 0) dJ_fill4_0 0 rfl rfl ?_
  refine ev_aln (pc := 1) dJ_fill4_1 hs (fun n1 hs => ?_)
  refine ev_iload_n (pc := 2) dJ_fill4_2 1 rfl rfl ?_
  refine ev_iload_n (pc := 3) dJ_fill4_3 2 rfl rfl ?_
  refine ev_callSv (pc := 4) (As := [.inl n1, .inl x1, .inl x2]) (S := []) (d2 := 0) dJ_fill4_4 (Or.inl vJ_13) zJ_rangeCheck rfl (Nat.le_of_ble_eq_true rfl) (Nat.le_of_ble_eq_true rfl) rfl rfl (fun p1 hz => cJ_rangeCheck hz) hs (fun r4 h4 hs => ?_)
  refine ev_iload_n (pc := 7) dJ_fill4_7 1 rfl rfl ?_
  refine ev_istore (pc := 8) (L' := [(0, .inr a0), (1, .inl x1), (2, .inl x2), (3, .inl x3), (4, .inl x1)]) dJ_fill4_8 rfl (Nat.le_of_ble_eq_true rfl) rfl ?_
  refine ev_sub [(0, .inr a0), (2, .inl x2), (3, .inl x3), (4, .inl x1)] [0, 2, 3, 4] rfl ?_
  exact cJ_fill4_L10  _ _ _ hs
set_option maxHeartbeats 4000000 in
set_option maxRecDepth 100000 in
theorem cJ_numberOfTrailingZeros {h0 : Hp} {x0 : Int32} {post : Int32 → Hp → Prop} (hs : Sat post (fJ_numberOfTrailingZeros h0 x0)) : Mt mJ_numberOfTrailingZeros 0 [.inl x0] h0 post := by
  refine mt_body (L := [(0, .inl x0)]) (by decide +kernel) (Nat.le_of_ble_eq_true rfl) rfl ?_
  refine ev_iload_n (pc := 0) dJ_numberOfTrailingZeros_0 0 rfl rfl ?_
  refine ev_iconst (pc := 1) (v := (-1)) dJ_numberOfTrailingZeros_1 (by decide) ?_
  refine ev_ixor (pc := 2) dJ_numberOfTrailingZeros_2 ?_
  refine ev_iload_n (pc := 3) dJ_numberOfTrailingZeros_3 0 rfl rfl ?_
  refine ev_iconst (pc := 4) (v := 1) dJ_numberOfTrailingZeros_4 (by decide) ?_
  refine ev_isub (pc := 5) dJ_numberOfTrailingZeros_5 ?_
  refine ev_iand (pc := 6) dJ_numberOfTrailingZeros_6 ?_
  refine ev_bnd hs (fun v7 hs => ?_)
  refine ev_istore_n (pc := 7) (L' := [(0, .inl v7)]) dJ_numberOfTrailingZeros_7 rfl rfl (Nat.le_of_ble_eq_true rfl) rfl ?_
  refine ev_iload_n (pc := 8) dJ_numberOfTrailingZeros_8 0 rfl rfl ?_
  refine ev_if_gt (pc := 9) (tgt := 17) dJ_numberOfTrailingZeros_9 (by decide) hs (fun hs => ?_) (fun hs => ?_)
  · refine ev_iconst (pc := 17) (v := 1) dJ_numberOfTrailingZeros_17 (by decide) ?_
    refine ev_istore_n (pc := 18) (L' := [(0, .inl v7), (1, .inl 1)]) dJ_numberOfTrailingZeros_18 rfl rfl (Nat.le_of_ble_eq_true rfl) rfl ?_
    refine ev_iload_n (pc := 19) dJ_numberOfTrailingZeros_19 0 rfl rfl ?_
    refine ev_ldcw (pc := 20) (v := 65536) dJ_numberOfTrailingZeros_20 kJ_264 ?_
    refine ev_jn (fun (j : Int32 → Int32 → Hp → RO) => ∀ (x0_34 : Int32) (x1_34 : Int32) (h34 : Hp), Sat post (j x0_34 x1_34 h34) → Ev mJ_numberOfTrailingZeros 0 34 [(0, .inl x0_34), (1, .inl x1_34)] [] h34 post) hs (fun x0_34 x1_34 h34 hs => ?_) (fun j34 hj34 hs => ?_)
    · refine ev_iload_n (pc := 34) dJ_numberOfTrailingZeros_34 0 rfl rfl ?_
      refine ev_sipush (pc := 35) (v := 256) dJ_numberOfTrailingZeros_35 (by decide) ?_
      refine ev_jn (fun (j : Int32 → Int32 → Hp → RO) => ∀ (x0_49 : Int32) (x1_49 : Int32) (h49 : Hp), Sat post (j x0_49 x1_49 h49) → Ev mJ_numberOfTrailingZeros 0 49 [(0, .inl x0_49), (1, .inl x1_49)] [] h49 post) hs (fun x0_49 x1_49 h49 hs => ?_) (fun j49 hj49 hs => ?_)
      · refine ev_iload_n (pc := 49) dJ_numberOfTrailingZeros_49 0 rfl rfl ?_
        refine ev_bipush (pc := 50) (v := 16) dJ_numberOfTrailingZeros_50 (by decide) ?_
        refine ev_jn (fun (j : Int32 → Int32 → Hp → RO) => ∀ (x0_62 : Int32) (x1_62 : Int32) (h62 : Hp), Sat post (j x0_62 x1_62 h62) → Ev mJ_numberOfTrailingZeros 0 62 [(0, .inl x0_62), (1, .inl x1_62)] [] h62 post) hs (fun x0_62 x1_62 h62 hs => ?_) (fun j62 hj62 hs => ?_)
        · refine ev_iload_n (pc := 62) dJ_numberOfTrailingZeros_62 0 rfl rfl ?_
          refine ev_iconst (pc := 63) (v := 4) dJ_numberOfTrailingZeros_63 (by decide) ?_
          refine ev_jn (fun (j : Int32 → Int32 → Hp → RO) => ∀ (x0_74 : Int32) (x1_74 : Int32) (h74 : Hp), Sat post (j x0_74 x1_74 h74) → Ev mJ_numberOfTrailingZeros 0 74 [(0, .inl x0_74), (1, .inl x1_74)] [] h74 post) hs (fun x0_74 x1_74 h74 hs => ?_) (fun j74 hj74 hs => ?_)
          · refine ev_iload_n (pc := 74) dJ_numberOfTrailingZeros_74 1 rfl rfl ?_
            refine ev_iload_n (pc := 75) dJ_numberOfTrailingZeros_75 0 rfl rfl ?_
            refine ev_iconst (pc := 76) (v := 1) dJ_numberOfTrailingZeros_76 (by decide) ?_
            refine ev_iushr (pc := 77) dJ_numberOfTrailingZeros_77 ?_
            refine ev_iadd (pc := 78) dJ_numberOfTrailingZeros_78 ?_
            exact ev_iret rfl dJ_numberOfTrailingZeros_79 hs
          refine ev_icmp_le (pc := 64) (tgt := 74) dJ_numberOfTrailingZeros_64 (by decide) hs (fun hs => ?_) (fun hs => ?_)
          · exact hj74 _ _ _ hs
          · refine ev_iinc (pc := 67) (L' := [(0, .inl x0_62), (1, .inl (x1_62 + 2))]) (v := (x1_62 + 2)) dJ_numberOfTrailingZeros_67 1 rfl (congrArg (HAdd.hAdd _) (by decide)) rfl (Nat.le_of_ble_eq_true rfl) rfl ?_
            refine ev_iload_n (pc := 70) dJ_numberOfTrailingZeros_70 0 rfl rfl ?_
            refine ev_iconst (pc := 71) (v := 2) dJ_numberOfTrailingZeros_71 (by decide) ?_
            refine ev_iushr (pc := 72) dJ_numberOfTrailingZeros_72 ?_
            refine ev_bnd hs (fun v73 hs => ?_)
            refine ev_istore_n (pc := 73) (L' := [(0, .inl v73), (1, .inl (x1_62 + 2))]) dJ_numberOfTrailingZeros_73 rfl rfl (Nat.le_of_ble_eq_true rfl) rfl ?_
            exact hj74 _ _ _ hs
        refine ev_icmp_le (pc := 52) (tgt := 62) dJ_numberOfTrailingZeros_52 (by decide) hs (fun hs => ?_) (fun hs => ?_)
        · exact hj62 _ _ _ hs
        · refine ev_iinc (pc := 55) (L' := [(0, .inl x0_49), (1, .inl (x1_49 + 4))]) (v := (x1_49 + 4)) dJ_numberOfTrailingZeros_55 1 rfl (congrArg (HAdd.hAdd _) (by decide)) rfl (Nat.le_of_ble_eq_true rfl) rfl ?_
          refine ev_iload_n (pc := 58) dJ_numberOfTrailingZeros_58 0 rfl rfl ?_
          refine ev_iconst (pc := 59) (v := 4) dJ_numberOfTrailingZeros_59 (by decide) ?_
          refine ev_iushr (pc := 60) dJ_numberOfTrailingZeros_60 ?_
          refine ev_bnd hs (fun v61 hs => ?_)
          refine ev_istore_n (pc := 61) (L' := [(0, .inl v61), (1, .inl (x1_49 + 4))]) dJ_numberOfTrailingZeros_61 rfl rfl (Nat.le_of_ble_eq_true rfl) rfl ?_
          exact hj62 _ _ _ hs
      refine ev_icmp_le (pc := 38) (tgt := 49) dJ_numberOfTrailingZeros_38 (by decide) hs (fun hs => ?_) (fun hs => ?_)
      · exact hj49 _ _ _ hs
      · refine ev_iinc (pc := 41) (L' := [(0, .inl x0_34), (1, .inl (x1_34 + 8))]) (v := (x1_34 + 8)) dJ_numberOfTrailingZeros_41 1 rfl (congrArg (HAdd.hAdd _) (by decide)) rfl (Nat.le_of_ble_eq_true rfl) rfl ?_
        refine ev_iload_n (pc := 44) dJ_numberOfTrailingZeros_44 0 rfl rfl ?_
        refine ev_bipush (pc := 45) (v := 8) dJ_numberOfTrailingZeros_45 (by decide) ?_
        refine ev_iushr (pc := 47) dJ_numberOfTrailingZeros_47 ?_
        refine ev_bnd hs (fun v48 hs => ?_)
        refine ev_istore_n (pc := 48) (L' := [(0, .inl v48), (1, .inl (x1_34 + 8))]) dJ_numberOfTrailingZeros_48 rfl rfl (Nat.le_of_ble_eq_true rfl) rfl ?_
        exact hj49 _ _ _ hs
    refine ev_icmp_le (pc := 23) (tgt := 34) dJ_numberOfTrailingZeros_23 (by decide) hs (fun hs => ?_) (fun hs => ?_)
    · exact hj34 _ _ _ hs
    · refine ev_iinc (pc := 26) (L' := [(0, .inl v7), (1, .inl (1 + 16))]) (v := (1 + 16)) dJ_numberOfTrailingZeros_26 1 rfl (congrArg (HAdd.hAdd _) (by decide)) rfl (Nat.le_of_ble_eq_true rfl) rfl ?_
      refine ev_iload_n (pc := 29) dJ_numberOfTrailingZeros_29 0 rfl rfl ?_
      refine ev_bipush (pc := 30) (v := 16) dJ_numberOfTrailingZeros_30 (by decide) ?_
      refine ev_iushr (pc := 32) dJ_numberOfTrailingZeros_32 ?_
      refine ev_bnd hs (fun v33 hs => ?_)
      refine ev_istore_n (pc := 33) (L' := [(0, .inl v33), (1, .inl (1 + 16))]) dJ_numberOfTrailingZeros_33 rfl rfl (Nat.le_of_ble_eq_true rfl) rfl ?_
      exact hj34 _ _ _ hs
  · refine ev_iload_n (pc := 12) dJ_numberOfTrailingZeros_12 0 rfl rfl ?_
    refine ev_bipush (pc := 13) (v := 32) dJ_numberOfTrailingZeros_13 (by decide) ?_
    refine ev_iand (pc := 15) dJ_numberOfTrailingZeros_15 ?_
    exact ev_iret rfl dJ_numberOfTrailingZeros_16 hs
set_option maxHeartbeats 4000000 in
set_option maxRecDepth 100000 in
theorem cT_hasPlace {h0 : Hp} {x1 : Int32} {post : Int32 → Hp → Prop} (hs : Sat post (fT_hasPlace h0 x1)) : Mt mT_hasPlace 1 [.inr 1, .inl x1] h0 post := by
  refine mt_body (L := [(0, .inr 1), (1, .inl x1)]) (by decide +kernel) (Nat.le_of_ble_eq_true rfl) rfl ?_
  refine ev_iload_n (pc := 0) dT_hasPlace_0 1 rfl rfl ?_
  refine ev_iconst (pc := 1) (v := 0) dT_hasPlace_1 (by decide) ?_
  refine ev_aload_n (pc := 2) dT_hasPlace_2 0 rfl rfl ?_
  refine ev_callV (pc := 3) (As := []) (S := [.inl 0, .inl x1]) (d2 := 0) dT_hasPlace_3 vT_43 zT_places rfl rfl rfl rfl (Nat.le_of_ble_eq_true rfl) (Nat.le_of_ble_eq_true rfl) rfl rfl (fun p1 hz => cT_places hz) hs (fun r3 h3 hs => ?_)
  refine ev_iconst (pc := 6) (v := 1) dT_hasPlace_6 (by decide) ?_
  refine ev_isub (pc := 7) dT_hasPlace_7 ?_
  refine ev_callS (pc := 8) (As := [.inl x1, .inl 0, .inl (r3 - 1)]) (S := []) (d2 := 0) dT_hasPlace_8 (Or.inr vT_47) zX_isWithin rfl (Nat.le_of_ble_eq_true rfl) (Nat.le_of_ble_eq_true rfl) rfl rfl (fun p1 hz => cX_isWithin hz) hs (fun r8 h8 hs => ?_)
  exact ev_zret rfl dT_hasPlace_11 hs
set_option maxHeartbeats 4000000 in
set_option maxRecDepth 100000 in
theorem cT_isInSpan {h0 : Hp} {x1 : Int32} {x2 : Int32} {post : Int32 → Hp → Prop} (hs : Sat post (fT_isInSpan h0 x1 x2)) : Mt mT_isInSpan 3 [.inr 1, .inl x1, .inl x2] h0 post := by
  refine mt_body (L := [(0, .inr 1), (1, .inl x1), (2, .inl x2)]) (by decide +kernel) (Nat.le_of_ble_eq_true rfl) rfl ?_
  refine ev_aload_n (pc := 0) dT_isInSpan_0 0 rfl rfl ?_
  refine ev_iload_n (pc := 1) dT_isInSpan_1 1 rfl rfl ?_
  refine ev_bipush (pc := 2) (v := 7) dT_isInSpan_2 (by decide) ?_
  refine ev_callV (pc := 4) (As := [.inl x1, .inl 7]) (S := []) (d2 := 0) dT_isInSpan_4 vT_69 zT_copyFact rfl rfl rfl rfl (Nat.le_of_ble_eq_true rfl) (Nat.le_of_ble_eq_true rfl) rfl rfl (fun p1 hz => cT_copyFact hz) hs (fun r4 h4 hs => ?_)
  refine ev_iload_n (pc := 7) dT_isInSpan_7 2 rfl rfl ?_
  refine ev_icmp_ne (pc := 8) (tgt := 39) dT_isInSpan_8 (by decide) hs (fun hs => ?_) (fun hs => ?_)
  · refine ev_iconst (pc := 39) (v := 0) dT_isInSpan_39 (by decide) ?_
    exact ev_zret rfl dT_isInSpan_40 hs
  · refine ev_aload_n (pc := 11) dT_isInSpan_11 0 rfl rfl ?_
    refine ev_iload_n (pc := 12) dT_isInSpan_12 1 rfl rfl ?_
    refine ev_bipush (pc := 13) (v := 6) dT_isInSpan_13 (by decide) ?_
    refine ev_callV (pc := 15) (As := [.inl x1, .inl 6]) (S := []) (d2 := 0) dT_isInSpan_15 vT_69 zT_copyFact rfl rfl rfl rfl (Nat.le_of_ble_eq_true rfl) (Nat.le_of_ble_eq_true rfl) rfl rfl (fun p1 hz => cT_copyFact hz) hs (fun r15 h15 hs => ?_)
    refine ev_iconst (pc := 18) (v := (-1)) dT_isInSpan_18 (by decide) ?_
    refine ev_icmp_eq (pc := 19) (tgt := 39) dT_isInSpan_19 (by decide) hs (fun hs => ?_) (fun hs => ?_)
    · refine ev_iconst (pc := 39) (v := 0) dT_isInSpan_39 (by decide) ?_
      exact ev_zret rfl dT_isInSpan_40 hs
    · refine ev_aload_n (pc := 22) dT_isInSpan_22 0 rfl rfl ?_
      refine ev_aload_n (pc := 23) dT_isInSpan_23 0 rfl rfl ?_
      refine ev_iload_n (pc := 24) dT_isInSpan_24 1 rfl rfl ?_
      refine ev_iconst (pc := 25) (v := 0) dT_isInSpan_25 (by decide) ?_
      refine ev_callV (pc := 26) (As := [.inl x1, .inl 0]) (S := [.inr 1]) (d2 := 0) dT_isInSpan_26 vT_69 zT_copyFact rfl rfl rfl rfl (Nat.le_of_ble_eq_true rfl) (Nat.le_of_ble_eq_true rfl) rfl rfl (fun p1 hz => cT_copyFact hz) hs (fun r26 h26 hs => ?_)
      refine ev_callV (pc := 29) (As := [.inl r26]) (S := []) (d2 := 2) dT_isInSpan_29 vT_91 zT_takesPart rfl rfl rfl rfl (Nat.le_of_ble_eq_true rfl) (Nat.le_of_ble_eq_true rfl) rfl rfl (fun p1 hz => cT_takesPart hz) hs (fun r29 h29 hs => ?_)
      refine ev_if_eq (pc := 32) (tgt := 39) dT_isInSpan_32 (by decide) hs (fun hs => ?_) (fun hs => ?_)
      · refine ev_iconst (pc := 39) (v := 0) dT_isInSpan_39 (by decide) ?_
        exact ev_zret rfl dT_isInSpan_40 hs
      · refine ev_iconst (pc := 35) (v := 1) dT_isInSpan_35 (by decide) ?_
        refine ev_goto (pc := 36) (tgt := 40) dT_isInSpan_36 (by decide) ?_
        exact ev_zret rfl dT_isInSpan_40 hs
set_option maxHeartbeats 4000000 in
set_option maxRecDepth 100000 in
theorem cT_datedOf_L4 {x1 : Int32} {post : Int32 → Hp → Prop}  : ∀ (n : Nat) (x2_4 : Int32) (x3_4 : Int32) (h4 : Hp), Sat post (fT_datedOf_L4 x1 n x2_4 x3_4 h4) → Ev mT_datedOf 4 4 [(0, .inr 1), (1, .inl x1), (2, .inl x2_4), (3, .inl x3_4)] [] h4 post := by
  intro n
  induction n with
  | zero =>
    intro x2_4 x3_4 h4 hs
    exact False.elim hs
  | succ n ih =>
    intro x2_4 x3_4 h4 hs
    refine ev_iload_n (pc := 4) dT_datedOf_4 3 rfl rfl ?_
    refine ev_aload_n (pc := 5) dT_datedOf_5 0 rfl rfl ?_
    refine ev_getI (pc := 6) dT_datedOf_6 lT_21 rfl rfl ?_
    refine ev_icmp_ge (pc := 9) (tgt := 30) dT_datedOf_9 (by decide) hs (fun hs => ?_) (fun hs => ?_)
    · refine ev_iload_n (pc := 30) dT_datedOf_30 2 rfl rfl ?_
      exact ev_iret rfl dT_datedOf_31 hs
    · refine ev_aload_n (pc := 12) dT_datedOf_12 0 rfl rfl ?_
      refine ev_iload_n (pc := 13) dT_datedOf_13 3 rfl rfl ?_
      refine ev_iload_n (pc := 14) dT_datedOf_14 1 rfl rfl ?_
      refine ev_callV (pc := 15) (As := [.inl x3_4, .inl x1]) (S := []) (d2 := 3) dT_datedOf_15 vT_100 zT_isInSpan rfl rfl rfl rfl (Nat.le_of_ble_eq_true rfl) (Nat.le_of_ble_eq_true rfl) rfl rfl (fun p1 hz => cT_isInSpan hz) hs (fun r15 h15 hs => ?_)
      refine ev_jn (fun (j : Int32 → Hp → RO) => ∀ (x2_24 : Int32) (h24 : Hp), Sat post (j x2_24 h24) → Ev mT_datedOf 4 24 [(0, .inr 1), (1, .inl x1), (2, .inl x2_24), (3, .inl x3_4)] [] h24 post) hs (fun x2_24 h24 hs => ?_) (fun j24 hj24 hs => ?_)
      · refine ev_iinc (pc := 24) (L' := [(0, .inr 1), (1, .inl x1), (2, .inl x2_24), (3, .inl (x3_4 + 1))]) (v := (x3_4 + 1)) dT_datedOf_24 3 rfl (congrArg (HAdd.hAdd _) (by decide)) rfl (Nat.le_of_ble_eq_true rfl) rfl ?_
        refine ev_goto (pc := 27) (tgt := 4) dT_datedOf_27 (by decide) ?_
        exact ih _ _ _ hs
      refine ev_if_eq (pc := 18) (tgt := 24) dT_datedOf_18 (by decide) hs (fun hs => ?_) (fun hs => ?_)
      · exact hj24 _ _ hs
      · refine ev_iinc (pc := 21) (L' := [(0, .inr 1), (1, .inl x1), (2, .inl (x2_4 + 1)), (3, .inl x3_4)]) (v := (x2_4 + 1)) dT_datedOf_21 2 rfl (congrArg (HAdd.hAdd _) (by decide)) rfl (Nat.le_of_ble_eq_true rfl) rfl ?_
        exact hj24 _ _ hs
set_option maxHeartbeats 4000000 in
set_option maxRecDepth 100000 in
theorem cT_datedOf {h0 : Hp} {x1 : Int32} {post : Int32 → Hp → Prop} (hs : Sat post (fT_datedOf h0 x1)) : Mt mT_datedOf 4 [.inr 1, .inl x1] h0 post := by
  refine mt_body (L := [(0, .inr 1), (1, .inl x1)]) (by decide +kernel) (Nat.le_of_ble_eq_true rfl) rfl ?_
  refine ev_iconst (pc := 0) (v := 0) dT_datedOf_0 (by decide) ?_
  refine ev_istore_n (pc := 1) (L' := [(0, .inr 1), (1, .inl x1), (2, .inl 0)]) dT_datedOf_1 rfl rfl (Nat.le_of_ble_eq_true rfl) rfl ?_
  refine ev_iconst (pc := 2) (v := 0) dT_datedOf_2 (by decide) ?_
  refine ev_istore_n (pc := 3) (L' := [(0, .inr 1), (1, .inl x1), (2, .inl 0), (3, .inl 0)]) dT_datedOf_3 rfl rfl (Nat.le_of_ble_eq_true rfl) rfl ?_
  exact cT_datedOf_L4  _ _ _ _ hs
set_option maxHeartbeats 4000000 in
set_option maxRecDepth 100000 in
theorem cT_earliestOf_L6 {x1 : Int32} {post : Int32 → Hp → Prop}  : ∀ (n : Nat) (x2_6 : Int32) (x3_6 : Int32) (h6 : Hp), Sat post (fT_earliestOf_L6 x1 n x2_6 x3_6 h6) → Ev mT_earliestOf 4 6 [(0, .inr 1), (1, .inl x1), (2, .inl x2_6), (3, .inl x3_6)] [] h6 post := by
  intro n
  induction n with
  | zero =>
    intro x2_6 x3_6 h6 hs
    exact False.elim hs
  | succ n ih =>
    intro x2_6 x3_6 h6 hs
    refine ev_iload_n (pc := 6) dT_earliestOf_6 3 rfl rfl ?_
    refine ev_aload_n (pc := 7) dT_earliestOf_7 0 rfl rfl ?_
    refine ev_getI (pc := 8) dT_earliestOf_8 lT_21 rfl rfl ?_
    refine ev_icmp_ge (pc := 11) (tgt := 41) dT_earliestOf_11 (by decide) hs (fun hs => ?_) (fun hs => ?_)
    · refine ev_iload_n (pc := 41) dT_earliestOf_41 2 rfl rfl ?_
      exact ev_iret rfl dT_earliestOf_42 hs
    · refine ev_aload_n (pc := 14) dT_earliestOf_14 0 rfl rfl ?_
      refine ev_iload_n (pc := 15) dT_earliestOf_15 3 rfl rfl ?_
      refine ev_iload_n (pc := 16) dT_earliestOf_16 1 rfl rfl ?_
      refine ev_callV (pc := 17) (As := [.inl x3_6, .inl x1]) (S := []) (d2 := 3) dT_earliestOf_17 vT_100 zT_isInSpan rfl rfl rfl rfl (Nat.le_of_ble_eq_true rfl) (Nat.le_of_ble_eq_true rfl) rfl rfl (fun p1 hz => cT_isInSpan hz) hs (fun r17 h17 hs => ?_)
      refine ev_jn (fun (j : Int32 → Hp → RO) => ∀ (x2_35 : Int32) (h35 : Hp), Sat post (j x2_35 h35) → Ev mT_earliestOf 4 35 [(0, .inr 1), (1, .inl x1), (2, .inl x2_35), (3, .inl x3_6)] [] h35 post) hs (fun x2_35 h35 hs => ?_) (fun j35 hj35 hs => ?_)
      · refine ev_iinc (pc := 35) (L' := [(0, .inr 1), (1, .inl x1), (2, .inl x2_35), (3, .inl (x3_6 + 1))]) (v := (x3_6 + 1)) dT_earliestOf_35 3 rfl (congrArg (HAdd.hAdd _) (by decide)) rfl (Nat.le_of_ble_eq_true rfl) rfl ?_
        refine ev_goto (pc := 38) (tgt := 6) dT_earliestOf_38 (by decide) ?_
        exact ih _ _ _ hs
      refine ev_if_eq (pc := 20) (tgt := 35) dT_earliestOf_20 (by decide) hs (fun hs => ?_) (fun hs => ?_)
      · exact hj35 _ _ hs
      · refine ev_iload_n (pc := 23) dT_earliestOf_23 2 rfl rfl ?_
        refine ev_aload_n (pc := 24) dT_earliestOf_24 0 rfl rfl ?_
        refine ev_iload_n (pc := 25) dT_earliestOf_25 3 rfl rfl ?_
        refine ev_bipush (pc := 26) (v := 6) dT_earliestOf_26 (by decide) ?_
        refine ev_callV (pc := 28) (As := [.inl x3_6, .inl 6]) (S := [.inl x2_6]) (d2 := 0) dT_earliestOf_28 vT_69 zT_copyFact rfl rfl rfl rfl (Nat.le_of_ble_eq_true rfl) (Nat.le_of_ble_eq_true rfl) rfl rfl (fun p1 hz => cT_copyFact hz) hs (fun r28 h28 hs => ?_)
        refine ev_mmin (pc := 31) dT_earliestOf_31 qT_103 (Nat.le_of_ble_eq_true rfl) (Nat.le_of_ble_eq_true rfl) ?_
        refine ev_bnd hs (fun v34 hs => ?_)
        refine ev_istore_n (pc := 34) (L' := [(0, .inr 1), (1, .inl x1), (2, .inl v34), (3, .inl x3_6)]) dT_earliestOf_34 rfl rfl (Nat.le_of_ble_eq_true rfl) rfl ?_
        exact hj35 _ _ hs
set_option maxHeartbeats 4000000 in
set_option maxRecDepth 100000 in
theorem cT_earliestOf {h0 : Hp} {x1 : Int32} {post : Int32 → Hp → Prop} (hs : Sat post (fT_earliestOf h0 x1)) : Mt mT_earliestOf 4 [.inr 1, .inl x1] h0 post := by
  refine mt_body (L := [(0, .inr 1), (1, .inl x1)]) (by decide +kernel) (Nat.le_of_ble_eq_true rfl) rfl ?_
  refine ev_sipush (pc := 0) (v := 999) dT_earliestOf_0 (by decide) ?_
  refine ev_istore_n (pc := 3) (L' := [(0, .inr 1), (1, .inl x1), (2, .inl 999)]) dT_earliestOf_3 rfl rfl (Nat.le_of_ble_eq_true rfl) rfl ?_
  refine ev_iconst (pc := 4) (v := 0) dT_earliestOf_4 (by decide) ?_
  refine ev_istore_n (pc := 5) (L' := [(0, .inr 1), (1, .inl x1), (2, .inl 999), (3, .inl 0)]) dT_earliestOf_5 rfl rfl (Nat.le_of_ble_eq_true rfl) rfl ?_
  exact cT_earliestOf_L6  _ _ _ _ hs
set_option maxHeartbeats 4000000 in
set_option maxRecDepth 100000 in
theorem cT_latestOf_L4 {x1 : Int32} {post : Int32 → Hp → Prop}  : ∀ (n : Nat) (x2_4 : Int32) (x3_4 : Int32) (h4 : Hp), Sat post (fT_latestOf_L4 x1 n x2_4 x3_4 h4) → Ev mT_latestOf 4 4 [(0, .inr 1), (1, .inl x1), (2, .inl x2_4), (3, .inl x3_4)] [] h4 post := by
  intro n
  induction n with
  | zero =>
    intro x2_4 x3_4 h4 hs
    exact False.elim hs
  | succ n ih =>
    intro x2_4 x3_4 h4 hs
    refine ev_iload_n (pc := 4) dT_latestOf_4 3 rfl rfl ?_
    refine ev_aload_n (pc := 5) dT_latestOf_5 0 rfl rfl ?_
    refine ev_getI (pc := 6) dT_latestOf_6 lT_21 rfl rfl ?_
    refine ev_icmp_ge (pc := 9) (tgt := 39) dT_latestOf_9 (by decide) hs (fun hs => ?_) (fun hs => ?_)
    · refine ev_iload_n (pc := 39) dT_latestOf_39 2 rfl rfl ?_
      exact ev_iret rfl dT_latestOf_40 hs
    · refine ev_aload_n (pc := 12) dT_latestOf_12 0 rfl rfl ?_
      refine ev_iload_n (pc := 13) dT_latestOf_13 3 rfl rfl ?_
      refine ev_iload_n (pc := 14) dT_latestOf_14 1 rfl rfl ?_
      refine ev_callV (pc := 15) (As := [.inl x3_4, .inl x1]) (S := []) (d2 := 3) dT_latestOf_15 vT_100 zT_isInSpan rfl rfl rfl rfl (Nat.le_of_ble_eq_true rfl) (Nat.le_of_ble_eq_true rfl) rfl rfl (fun p1 hz => cT_isInSpan hz) hs (fun r15 h15 hs => ?_)
      refine ev_jn (fun (j : Int32 → Hp → RO) => ∀ (x2_33 : Int32) (h33 : Hp), Sat post (j x2_33 h33) → Ev mT_latestOf 4 33 [(0, .inr 1), (1, .inl x1), (2, .inl x2_33), (3, .inl x3_4)] [] h33 post) hs (fun x2_33 h33 hs => ?_) (fun j33 hj33 hs => ?_)
      · refine ev_iinc (pc := 33) (L' := [(0, .inr 1), (1, .inl x1), (2, .inl x2_33), (3, .inl (x3_4 + 1))]) (v := (x3_4 + 1)) dT_latestOf_33 3 rfl (congrArg (HAdd.hAdd _) (by decide)) rfl (Nat.le_of_ble_eq_true rfl) rfl ?_
        refine ev_goto (pc := 36) (tgt := 4) dT_latestOf_36 (by decide) ?_
        exact ih _ _ _ hs
      refine ev_if_eq (pc := 18) (tgt := 33) dT_latestOf_18 (by decide) hs (fun hs => ?_) (fun hs => ?_)
      · exact hj33 _ _ hs
      · refine ev_iload_n (pc := 21) dT_latestOf_21 2 rfl rfl ?_
        refine ev_aload_n (pc := 22) dT_latestOf_22 0 rfl rfl ?_
        refine ev_iload_n (pc := 23) dT_latestOf_23 3 rfl rfl ?_
        refine ev_bipush (pc := 24) (v := 6) dT_latestOf_24 (by decide) ?_
        refine ev_callV (pc := 26) (As := [.inl x3_4, .inl 6]) (S := [.inl x2_4]) (d2 := 0) dT_latestOf_26 vT_69 zT_copyFact rfl rfl rfl rfl (Nat.le_of_ble_eq_true rfl) (Nat.le_of_ble_eq_true rfl) rfl rfl (fun p1 hz => cT_copyFact hz) hs (fun r26 h26 hs => ?_)
        refine ev_mmax (pc := 29) dT_latestOf_29 qT_108 (Nat.le_of_ble_eq_true rfl) (Nat.le_of_ble_eq_true rfl) ?_
        refine ev_bnd hs (fun v32 hs => ?_)
        refine ev_istore_n (pc := 32) (L' := [(0, .inr 1), (1, .inl x1), (2, .inl v32), (3, .inl x3_4)]) dT_latestOf_32 rfl rfl (Nat.le_of_ble_eq_true rfl) rfl ?_
        exact hj33 _ _ hs
set_option maxHeartbeats 4000000 in
set_option maxRecDepth 100000 in
theorem cT_latestOf {h0 : Hp} {x1 : Int32} {post : Int32 → Hp → Prop} (hs : Sat post (fT_latestOf h0 x1)) : Mt mT_latestOf 4 [.inr 1, .inl x1] h0 post := by
  refine mt_body (L := [(0, .inr 1), (1, .inl x1)]) (by decide +kernel) (Nat.le_of_ble_eq_true rfl) rfl ?_
  refine ev_iconst (pc := 0) (v := 0) dT_latestOf_0 (by decide) ?_
  refine ev_istore_n (pc := 1) (L' := [(0, .inr 1), (1, .inl x1), (2, .inl 0)]) dT_latestOf_1 rfl rfl (Nat.le_of_ble_eq_true rfl) rfl ?_
  refine ev_iconst (pc := 2) (v := 0) dT_latestOf_2 (by decide) ?_
  refine ev_istore_n (pc := 3) (L' := [(0, .inr 1), (1, .inl x1), (2, .inl 0), (3, .inl 0)]) dT_latestOf_3 rfl rfl (Nat.le_of_ble_eq_true rfl) rfl ?_
  exact cT_latestOf_L4  _ _ _ _ hs
set_option maxHeartbeats 4000000 in
set_option maxRecDepth 100000 in
theorem cX_cleared_L2 {k19 : Int32 → Hp → RO} {x0 : Int32} {x1 : Int32} {post : Int32 → Hp → Prop} (hk19 : ∀ (y2 : Int32) (h : Hp), Sat post (k19 y2 h) → Ev mX_cleared 0 19 [(0, .inl x0), (2, .inl y2)] [] h post) : ∀ (n : Nat) (x2_2 : Int32) (h2 : Hp), Sat post (fX_cleared_L2 k19 x0 x1 n x2_2 h2) → Ev mX_cleared 0 2 [(0, .inl x0), (1, .inl x1), (2, .inl x2_2)] [] h2 post := by
  intro n
  induction n with
  | zero =>
    intro x2_2 h2 hs
    exact False.elim hs
  | succ n ih =>
    intro x2_2 h2 hs
    refine ev_iload_n (pc := 2) dX_cleared_2 2 rfl rfl ?_
    refine ev_iconst (pc := 3) (v := 1) dX_cleared_3 (by decide) ?_
    refine ev_icmp_le (pc := 4) (tgt := 29) dX_cleared_4 (by decide) hs (fun hs => ?_) (fun hs => ?_)
    · refine ev_iload_n (pc := 29) dX_cleared_29 0 rfl rfl ?_
      exact ev_iret rfl dX_cleared_30 hs
    · refine ev_iload_n (pc := 7) dX_cleared_7 0 rfl rfl ?_
      refine ev_iload_n (pc := 8) dX_cleared_8 2 rfl rfl ?_
      refine ev_irem (pc := 9) dX_cleared_9 hs (fun q9 hs => ?_)
      refine ev_jn (fun (j : Hp → RO) => ∀  (h23 : Hp), Sat post (j h23) → Ev mX_cleared 0 23 [(0, .inl x0), (1, .inl x1), (2, .inl x2_2)] [] h23 post) hs (fun h23 hs => ?_) (fun j23 hj23 hs => ?_)
      · refine ev_iinc (pc := 23) (L' := [(0, .inl x0), (1, .inl x1), (2, .inl (x2_2 + (-1)))]) (v := (x2_2 + (-1))) dX_cleared_23 2 rfl (congrArg (HAdd.hAdd _) (by decide)) rfl (Nat.le_of_ble_eq_true rfl) rfl ?_
        refine ev_goto (pc := 26) (tgt := 2) dX_cleared_26 (by decide) ?_
        exact ih _ _ hs
      refine ev_if_ne (pc := 10) (tgt := 23) dX_cleared_10 (by decide) hs (fun hs => ?_) (fun hs => ?_)
      · exact hj23 _ hs
      · refine ev_iload_n (pc := 13) dX_cleared_13 1 rfl rfl ?_
        refine ev_iload_n (pc := 14) dX_cleared_14 2 rfl rfl ?_
        refine ev_irem (pc := 15) dX_cleared_15 hs (fun q15 hs => ?_)
        refine ev_if_ne (pc := 16) (tgt := 23) dX_cleared_16 (by decide) hs (fun hs => ?_) (fun hs => ?_)
        · exact hj23 _ hs
        · refine ev_sub [(0, .inl x0), (2, .inl x2_2)] [0, 2] rfl ?_
          exact hk19 _ _ hs
set_option maxHeartbeats 4000000 in
set_option maxRecDepth 100000 in
theorem cX_cleared {h0 : Hp} {x0 : Int32} {x1 : Int32} {post : Int32 → Hp → Prop} (hs : Sat post (fX_cleared h0 x0 x1)) : Mt mX_cleared 0 [.inl x0, .inl x1] h0 post := by
  refine mt_body (L := [(0, .inl x0), (1, .inl x1)]) (by decide +kernel) (Nat.le_of_ble_eq_true rfl) rfl ?_
  refine ev_iload_n (pc := 0) dX_cleared_0 0 rfl rfl ?_
  refine ev_istore_n (pc := 1) (L' := [(0, .inl x0), (1, .inl x1), (2, .inl x0)]) dX_cleared_1 rfl rfl (Nat.le_of_ble_eq_true rfl) rfl ?_
  refine cX_cleared_L2 (fun x2_19 h19 hs => ?_) _ _ _ hs
  refine ev_iload_n (pc := 19) dX_cleared_19 0 rfl rfl ?_
  refine ev_iload_n (pc := 20) dX_cleared_20 1 rfl rfl ?_
  refine ev_idiv (pc := 21) dX_cleared_21 hs (fun q21 hs => ?_)
  exact ev_iret rfl dX_cleared_22 hs
set_option maxHeartbeats 4000000 in
set_option maxRecDepth 100000 in
theorem cT_forgedPieces_L4  {post : Int32 → Hp → Prop}  : ∀ (n : Nat) (x1_4 : Int32) (x2_4 : Int32) (h4 : Hp), Sat post (fT_forgedPieces_L4 n x1_4 x2_4 h4) → Ev mT_forgedPieces 2 4 [(0, .inr 1), (1, .inl x1_4), (2, .inl x2_4)] [] h4 post := by
  intro n
  induction n with
  | zero =>
    intro x1_4 x2_4 h4 hs
    exact False.elim hs
  | succ n ih =>
    intro x1_4 x2_4 h4 hs
    refine ev_iload_n (pc := 4) dT_forgedPieces_4 2 rfl rfl ?_
    refine ev_aload_n (pc := 5) dT_forgedPieces_5 0 rfl rfl ?_
    refine ev_getI (pc := 6) dT_forgedPieces_6 lT_18 rfl rfl ?_
    refine ev_icmp_ge (pc := 9) (tgt := 29) dT_forgedPieces_9 (by decide) hs (fun hs => ?_) (fun hs => ?_)
    · refine ev_iload_n (pc := 29) dT_forgedPieces_29 1 rfl rfl ?_
      exact ev_iret rfl dT_forgedPieces_30 hs
    · refine ev_aload_n (pc := 12) dT_forgedPieces_12 0 rfl rfl ?_
      refine ev_iload_n (pc := 13) dT_forgedPieces_13 2 rfl rfl ?_
      refine ev_callV (pc := 14) (As := [.inl x2_4]) (S := []) (d2 := 1) dT_forgedPieces_14 vT_88 zT_isForged rfl rfl rfl rfl (Nat.le_of_ble_eq_true rfl) (Nat.le_of_ble_eq_true rfl) rfl rfl (fun p1 hz => cT_isForged hz) hs (fun r14 h14 hs => ?_)
      refine ev_jn (fun (j : Int32 → Hp → RO) => ∀ (x1_23 : Int32) (h23 : Hp), Sat post (j x1_23 h23) → Ev mT_forgedPieces 2 23 [(0, .inr 1), (1, .inl x1_23), (2, .inl x2_4)] [] h23 post) hs (fun x1_23 h23 hs => ?_) (fun j23 hj23 hs => ?_)
      · refine ev_iinc (pc := 23) (L' := [(0, .inr 1), (1, .inl x1_23), (2, .inl (x2_4 + 1))]) (v := (x2_4 + 1)) dT_forgedPieces_23 2 rfl (congrArg (HAdd.hAdd _) (by decide)) rfl (Nat.le_of_ble_eq_true rfl) rfl ?_
        refine ev_goto (pc := 26) (tgt := 4) dT_forgedPieces_26 (by decide) ?_
        exact ih _ _ _ hs
      refine ev_if_eq (pc := 17) (tgt := 23) dT_forgedPieces_17 (by decide) hs (fun hs => ?_) (fun hs => ?_)
      · exact hj23 _ _ hs
      · refine ev_iinc (pc := 20) (L' := [(0, .inr 1), (1, .inl (x1_4 + 1)), (2, .inl x2_4)]) (v := (x1_4 + 1)) dT_forgedPieces_20 1 rfl (congrArg (HAdd.hAdd _) (by decide)) rfl (Nat.le_of_ble_eq_true rfl) rfl ?_
        exact hj23 _ _ hs
set_option maxHeartbeats 4000000 in
set_option maxRecDepth 100000 in
theorem cT_forgedPieces {h0 : Hp}  {post : Int32 → Hp → Prop} (hs : Sat post (fT_forgedPieces h0 )) : Mt mT_forgedPieces 2 [.inr 1] h0 post := by
  refine mt_body (L := [(0, .inr 1)]) (by decide +kernel) (Nat.le_of_ble_eq_true rfl) rfl ?_
  refine ev_iconst (pc := 0) (v := 0) dT_forgedPieces_0 (by decide) ?_
  refine ev_istore_n (pc := 1) (L' := [(0, .inr 1), (1, .inl 0)]) dT_forgedPieces_1 rfl rfl (Nat.le_of_ble_eq_true rfl) rfl ?_
  refine ev_iconst (pc := 2) (v := 0) dT_forgedPieces_2 (by decide) ?_
  refine ev_istore_n (pc := 3) (L' := [(0, .inr 1), (1, .inl 0), (2, .inl 0)]) dT_forgedPieces_3 rfl rfl (Nat.le_of_ble_eq_true rfl) rfl ?_
  exact cT_forgedPieces_L4  _ _ _ _ hs
set_option maxHeartbeats 4000000 in
set_option maxRecDepth 100000 in
theorem cT_takingPieces_L4  {post : Int32 → Hp → Prop}  : ∀ (n : Nat) (x1_4 : Int32) (x2_4 : Int32) (h4 : Hp), Sat post (fT_takingPieces_L4 n x1_4 x2_4 h4) → Ev mT_takingPieces 3 4 [(0, .inr 1), (1, .inl x1_4), (2, .inl x2_4)] [] h4 post := by
  intro n
  induction n with
  | zero =>
    intro x1_4 x2_4 h4 hs
    exact False.elim hs
  | succ n ih =>
    intro x1_4 x2_4 h4 hs
    refine ev_iload_n (pc := 4) dT_takingPieces_4 2 rfl rfl ?_
    refine ev_aload_n (pc := 5) dT_takingPieces_5 0 rfl rfl ?_
    refine ev_getI (pc := 6) dT_takingPieces_6 lT_18 rfl rfl ?_
    refine ev_icmp_ge (pc := 9) (tgt := 29) dT_takingPieces_9 (by decide) hs (fun hs => ?_) (fun hs => ?_)
    · refine ev_iload_n (pc := 29) dT_takingPieces_29 1 rfl rfl ?_
      exact ev_iret rfl dT_takingPieces_30 hs
    · refine ev_aload_n (pc := 12) dT_takingPieces_12 0 rfl rfl ?_
      refine ev_iload_n (pc := 13) dT_takingPieces_13 2 rfl rfl ?_
      refine ev_callV (pc := 14) (As := [.inl x2_4]) (S := []) (d2 := 2) dT_takingPieces_14 vT_91 zT_takesPart rfl rfl rfl rfl (Nat.le_of_ble_eq_true rfl) (Nat.le_of_ble_eq_true rfl) rfl rfl (fun p1 hz => cT_takesPart hz) hs (fun r14 h14 hs => ?_)
      refine ev_jn (fun (j : Int32 → Hp → RO) => ∀ (x1_23 : Int32) (h23 : Hp), Sat post (j x1_23 h23) → Ev mT_takingPieces 3 23 [(0, .inr 1), (1, .inl x1_23), (2, .inl x2_4)] [] h23 post) hs (fun x1_23 h23 hs => ?_) (fun j23 hj23 hs => ?_)
      · refine ev_iinc (pc := 23) (L' := [(0, .inr 1), (1, .inl x1_23), (2, .inl (x2_4 + 1))]) (v := (x2_4 + 1)) dT_takingPieces_23 2 rfl (congrArg (HAdd.hAdd _) (by decide)) rfl (Nat.le_of_ble_eq_true rfl) rfl ?_
        refine ev_goto (pc := 26) (tgt := 4) dT_takingPieces_26 (by decide) ?_
        exact ih _ _ _ hs
      refine ev_if_eq (pc := 17) (tgt := 23) dT_takingPieces_17 (by decide) hs (fun hs => ?_) (fun hs => ?_)
      · exact hj23 _ _ hs
      · refine ev_iinc (pc := 20) (L' := [(0, .inr 1), (1, .inl (x1_4 + 1)), (2, .inl x2_4)]) (v := (x1_4 + 1)) dT_takingPieces_20 1 rfl (congrArg (HAdd.hAdd _) (by decide)) rfl (Nat.le_of_ble_eq_true rfl) rfl ?_
        exact hj23 _ _ hs
set_option maxHeartbeats 4000000 in
set_option maxRecDepth 100000 in
theorem cT_takingPieces {h0 : Hp}  {post : Int32 → Hp → Prop} (hs : Sat post (fT_takingPieces h0 )) : Mt mT_takingPieces 3 [.inr 1] h0 post := by
  refine mt_body (L := [(0, .inr 1)]) (by decide +kernel) (Nat.le_of_ble_eq_true rfl) rfl ?_
  refine ev_iconst (pc := 0) (v := 0) dT_takingPieces_0 (by decide) ?_
  refine ev_istore_n (pc := 1) (L' := [(0, .inr 1), (1, .inl 0)]) dT_takingPieces_1 rfl rfl (Nat.le_of_ble_eq_true rfl) rfl ?_
  refine ev_iconst (pc := 2) (v := 0) dT_takingPieces_2 (by decide) ?_
  refine ev_istore_n (pc := 3) (L' := [(0, .inr 1), (1, .inl 0), (2, .inl 0)]) dT_takingPieces_3 rfl rfl (Nat.le_of_ble_eq_true rfl) rfl ?_
  exact cT_takingPieces_L4  _ _ _ _ hs
set_option maxHeartbeats 4000000 in
set_option maxRecDepth 100000 in
theorem cT_copyFrom_2_1 {h0 : Hp}  {post : Int32 → Hp → Prop} (hs : Sat post (fT_copyFrom_2_1 h0 )) : Mt mT_copyFrom 1 [.inr 2, .inr 1] h0 post := by
  refine mt_body (L := [(0, .inr 2), (1, .inr 1)]) (by decide +kernel) (Nat.le_of_ble_eq_true rfl) rfl ?_
  refine ev_aload_n (pc := 0) dT_copyFrom_0 0 rfl rfl ?_
  refine ev_aload_n (pc := 1) dT_copyFrom_1 1 rfl rfl ?_
  refine ev_getI (pc := 2) dT_copyFrom_2 lT_9 rfl rfl ?_
  refine ev_putI (pc := 5) dT_copyFrom_5 lT_9 w2_0 rfl rfl hs (fun h5 hs => ?_)
  refine ev_aload_n (pc := 8) dT_copyFrom_8 0 rfl rfl ?_
  refine ev_aload_n (pc := 9) dT_copyFrom_9 1 rfl rfl ?_
  refine ev_getI (pc := 10) dT_copyFrom_10 lT_15 rfl rfl ?_
  refine ev_putI (pc := 13) dT_copyFrom_13 lT_15 w2_1 rfl rfl hs (fun h13 hs => ?_)
  refine ev_aload_n (pc := 16) dT_copyFrom_16 0 rfl rfl ?_
  refine ev_aload_n (pc := 17) dT_copyFrom_17 1 rfl rfl ?_
  refine ev_getI (pc := 18) dT_copyFrom_18 lT_18 rfl rfl ?_
  refine ev_putI (pc := 21) dT_copyFrom_21 lT_18 w2_2 rfl rfl hs (fun h21 hs => ?_)
  refine ev_aload_n (pc := 24) dT_copyFrom_24 0 rfl rfl ?_
  refine ev_aload_n (pc := 25) dT_copyFrom_25 1 rfl rfl ?_
  refine ev_getI (pc := 26) dT_copyFrom_26 lT_21 rfl rfl ?_
  refine ev_putI (pc := 29) dT_copyFrom_29 lT_21 w2_3 rfl rfl hs (fun h29 hs => ?_)
  refine ev_aload_n (pc := 32) dT_copyFrom_32 0 rfl rfl ?_
  refine ev_aload_n (pc := 33) dT_copyFrom_33 1 rfl rfl ?_
  refine ev_getI (pc := 34) dT_copyFrom_34 lT_24 rfl rfl ?_
  refine ev_putI (pc := 37) dT_copyFrom_37 lT_24 w2_4 rfl rfl hs (fun h37 hs => ?_)
  refine ev_aload_n (pc := 40) dT_copyFrom_40 1 rfl rfl ?_
  refine ev_getR (pc := 41) dT_copyFrom_41 lT_27 rfl rfl ?_
  refine ev_iconst (pc := 44) (v := 0) dT_copyFrom_44 (by decide) ?_
  refine ev_aload_n (pc := 45) dT_copyFrom_45 0 rfl rfl ?_
  refine ev_getR (pc := 46) dT_copyFrom_46 lT_27 rfl rfl ?_
  refine ev_iconst (pc := 49) (v := 0) dT_copyFrom_49 (by decide) ?_
  refine ev_aload_n (pc := 50) dT_copyFrom_50 0 rfl rfl ?_
  refine ev_getR (pc := 51) dT_copyFrom_51 lT_27 rfl rfl ?_
  refine ev_aln (pc := 54) dT_copyFrom_54 hs (fun n54 hs => ?_)
  refine ev_cpy (pc := 55) dT_copyFrom_55 aT_37 a_native a_static a_init (Nat.le_of_ble_eq_true rfl) a_words hs (fun h55 hs => ?_)
  refine ev_aload_n (pc := 58) dT_copyFrom_58 1 rfl rfl ?_
  refine ev_getR (pc := 59) dT_copyFrom_59 lT_31 rfl rfl ?_
  refine ev_iconst (pc := 62) (v := 0) dT_copyFrom_62 (by decide) ?_
  refine ev_aload_n (pc := 63) dT_copyFrom_63 0 rfl rfl ?_
  refine ev_getR (pc := 64) dT_copyFrom_64 lT_31 rfl rfl ?_
  refine ev_iconst (pc := 67) (v := 0) dT_copyFrom_67 (by decide) ?_
  refine ev_aload_n (pc := 68) dT_copyFrom_68 0 rfl rfl ?_
  refine ev_getR (pc := 69) dT_copyFrom_69 lT_31 rfl rfl ?_
  refine ev_aln (pc := 72) dT_copyFrom_72 hs (fun n72 hs => ?_)
  refine ev_cpy (pc := 73) dT_copyFrom_73 aT_37 a_native a_static a_init (Nat.le_of_ble_eq_true rfl) a_words hs (fun h73 hs => ?_)
  refine ev_aload_n (pc := 76) dT_copyFrom_76 1 rfl rfl ?_
  refine ev_getR (pc := 77) dT_copyFrom_77 lT_34 rfl rfl ?_
  refine ev_iconst (pc := 80) (v := 0) dT_copyFrom_80 (by decide) ?_
  refine ev_aload_n (pc := 81) dT_copyFrom_81 0 rfl rfl ?_
  refine ev_getR (pc := 82) dT_copyFrom_82 lT_34 rfl rfl ?_
  refine ev_iconst (pc := 85) (v := 0) dT_copyFrom_85 (by decide) ?_
  refine ev_aload_n (pc := 86) dT_copyFrom_86 0 rfl rfl ?_
  refine ev_getR (pc := 87) dT_copyFrom_87 lT_34 rfl rfl ?_
  refine ev_aln (pc := 90) dT_copyFrom_90 hs (fun n90 hs => ?_)
  refine ev_cpy (pc := 91) dT_copyFrom_91 aT_37 a_native a_static a_init (Nat.le_of_ble_eq_true rfl) a_words hs (fun h91 hs => ?_)
  exact ev_vret rfl dT_copyFrom_94 hs
set_option maxHeartbeats 4000000 in
set_option maxRecDepth 100000 in
theorem cT_copyFrom_1_2 {h0 : Hp}  {post : Int32 → Hp → Prop} (hs : Sat post (fT_copyFrom_1_2 h0 )) : Mt mT_copyFrom 1 [.inr 1, .inr 2] h0 post := by
  refine mt_body (L := [(0, .inr 1), (1, .inr 2)]) (by decide +kernel) (Nat.le_of_ble_eq_true rfl) rfl ?_
  refine ev_aload_n (pc := 0) dT_copyFrom_0 0 rfl rfl ?_
  refine ev_aload_n (pc := 1) dT_copyFrom_1 1 rfl rfl ?_
  refine ev_getI (pc := 2) dT_copyFrom_2 lT_9 rfl rfl ?_
  refine ev_putI (pc := 5) dT_copyFrom_5 lT_9 w2_0 rfl rfl hs (fun h5 hs => ?_)
  refine ev_aload_n (pc := 8) dT_copyFrom_8 0 rfl rfl ?_
  refine ev_aload_n (pc := 9) dT_copyFrom_9 1 rfl rfl ?_
  refine ev_getI (pc := 10) dT_copyFrom_10 lT_15 rfl rfl ?_
  refine ev_putI (pc := 13) dT_copyFrom_13 lT_15 w2_1 rfl rfl hs (fun h13 hs => ?_)
  refine ev_aload_n (pc := 16) dT_copyFrom_16 0 rfl rfl ?_
  refine ev_aload_n (pc := 17) dT_copyFrom_17 1 rfl rfl ?_
  refine ev_getI (pc := 18) dT_copyFrom_18 lT_18 rfl rfl ?_
  refine ev_putI (pc := 21) dT_copyFrom_21 lT_18 w2_2 rfl rfl hs (fun h21 hs => ?_)
  refine ev_aload_n (pc := 24) dT_copyFrom_24 0 rfl rfl ?_
  refine ev_aload_n (pc := 25) dT_copyFrom_25 1 rfl rfl ?_
  refine ev_getI (pc := 26) dT_copyFrom_26 lT_21 rfl rfl ?_
  refine ev_putI (pc := 29) dT_copyFrom_29 lT_21 w2_3 rfl rfl hs (fun h29 hs => ?_)
  refine ev_aload_n (pc := 32) dT_copyFrom_32 0 rfl rfl ?_
  refine ev_aload_n (pc := 33) dT_copyFrom_33 1 rfl rfl ?_
  refine ev_getI (pc := 34) dT_copyFrom_34 lT_24 rfl rfl ?_
  refine ev_putI (pc := 37) dT_copyFrom_37 lT_24 w2_4 rfl rfl hs (fun h37 hs => ?_)
  refine ev_aload_n (pc := 40) dT_copyFrom_40 1 rfl rfl ?_
  refine ev_getR (pc := 41) dT_copyFrom_41 lT_27 rfl rfl ?_
  refine ev_iconst (pc := 44) (v := 0) dT_copyFrom_44 (by decide) ?_
  refine ev_aload_n (pc := 45) dT_copyFrom_45 0 rfl rfl ?_
  refine ev_getR (pc := 46) dT_copyFrom_46 lT_27 rfl rfl ?_
  refine ev_iconst (pc := 49) (v := 0) dT_copyFrom_49 (by decide) ?_
  refine ev_aload_n (pc := 50) dT_copyFrom_50 0 rfl rfl ?_
  refine ev_getR (pc := 51) dT_copyFrom_51 lT_27 rfl rfl ?_
  refine ev_aln (pc := 54) dT_copyFrom_54 hs (fun n54 hs => ?_)
  refine ev_cpy (pc := 55) dT_copyFrom_55 aT_37 a_native a_static a_init (Nat.le_of_ble_eq_true rfl) a_words hs (fun h55 hs => ?_)
  refine ev_aload_n (pc := 58) dT_copyFrom_58 1 rfl rfl ?_
  refine ev_getR (pc := 59) dT_copyFrom_59 lT_31 rfl rfl ?_
  refine ev_iconst (pc := 62) (v := 0) dT_copyFrom_62 (by decide) ?_
  refine ev_aload_n (pc := 63) dT_copyFrom_63 0 rfl rfl ?_
  refine ev_getR (pc := 64) dT_copyFrom_64 lT_31 rfl rfl ?_
  refine ev_iconst (pc := 67) (v := 0) dT_copyFrom_67 (by decide) ?_
  refine ev_aload_n (pc := 68) dT_copyFrom_68 0 rfl rfl ?_
  refine ev_getR (pc := 69) dT_copyFrom_69 lT_31 rfl rfl ?_
  refine ev_aln (pc := 72) dT_copyFrom_72 hs (fun n72 hs => ?_)
  refine ev_cpy (pc := 73) dT_copyFrom_73 aT_37 a_native a_static a_init (Nat.le_of_ble_eq_true rfl) a_words hs (fun h73 hs => ?_)
  refine ev_aload_n (pc := 76) dT_copyFrom_76 1 rfl rfl ?_
  refine ev_getR (pc := 77) dT_copyFrom_77 lT_34 rfl rfl ?_
  refine ev_iconst (pc := 80) (v := 0) dT_copyFrom_80 (by decide) ?_
  refine ev_aload_n (pc := 81) dT_copyFrom_81 0 rfl rfl ?_
  refine ev_getR (pc := 82) dT_copyFrom_82 lT_34 rfl rfl ?_
  refine ev_iconst (pc := 85) (v := 0) dT_copyFrom_85 (by decide) ?_
  refine ev_aload_n (pc := 86) dT_copyFrom_86 0 rfl rfl ?_
  refine ev_getR (pc := 87) dT_copyFrom_87 lT_34 rfl rfl ?_
  refine ev_aln (pc := 90) dT_copyFrom_90 hs (fun n90 hs => ?_)
  refine ev_cpy (pc := 91) dT_copyFrom_91 aT_37 a_native a_static a_init (Nat.le_of_ble_eq_true rfl) a_words hs (fun h91 hs => ?_)
  exact ev_vret rfl dT_copyFrom_94 hs
