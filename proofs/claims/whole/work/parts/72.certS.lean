/-! CERTIFICATES: the methods do what their functions say: printed by a program of mine -/
set_option maxHeartbeats 4000000 in
set_option maxRecDepth 100000 in
theorem cS_forget {h0 : Hp}  {post : Int32 → Hp → Prop} (hs : Sat post (fS_forget h0 )) : Mt mS_forget 0 [.inr 3] h0 post := by
  refine mt_body (L := [(0, .inr 3)]) (by decide +kernel) (Nat.le_of_ble_eq_true rfl) rfl ?_
  refine ev_aload_n (pc := 0) dS_forget_0 0 rfl rfl ?_
  refine ev_iconst (pc := 1) (v := 1) dS_forget_1 (by decide) ?_
  refine ev_putZ (pc := 2) dS_forget_2 lS_9 w1_2 rfl rfl hs (fun h2 hs => ?_)
  exact ev_vret rfl dS_forget_5 hs
set_option maxHeartbeats 4000000 in
set_option maxRecDepth 100000 in
theorem cS_openSpots_L4  {post : Int32 → Hp → Prop}  : ∀ (n : Nat) (x1_4 : Int32) (x2_4 : Int32) (h4 : Hp), Sat post (fS_openSpots_L4 n x1_4 x2_4 h4) → Ev mS_openSpots 3 4 [(0, .inr 3), (1, .inl x1_4), (2, .inl x2_4)] [] h4 post := by
  intro n
  induction n with
  | zero =>
    intro x1_4 x2_4 h4 hs
    exact False.elim hs
  | succ n ih =>
    intro x1_4 x2_4 h4 hs
    refine ev_iload_n (pc := 4) dS_openSpots_4 2 rfl rfl ?_
    refine ev_iconst (pc := 5) (v := 5) dS_openSpots_5 (by decide) ?_
    refine ev_icmp_ge (pc := 6) (tgt := 108) dS_openSpots_6 (by decide) hs (fun hs => ?_) (fun hs => ?_)
    · refine ev_iload_n (pc := 108) dS_openSpots_108 1 rfl rfl ?_
      exact ev_zret rfl dS_openSpots_109 hs
    · refine ev_aload_n (pc := 9) dS_openSpots_9 0 rfl rfl ?_
      refine ev_getR (pc := 10) dS_openSpots_10 lS_35 rfl rfl ?_
      refine ev_iload_n (pc := 13) dS_openSpots_13 2 rfl rfl ?_
      refine ev_aload_n (pc := 14) dS_openSpots_14 0 rfl rfl ?_
      refine ev_getR (pc := 15) dS_openSpots_15 lS_66 rfl rfl ?_
      refine ev_iload_n (pc := 18) dS_openSpots_18 2 rfl rfl ?_
      refine ev_callV (pc := 19) (As := [.inl x2_4]) (S := [.inl x2_4, .inr 13]) (d2 := 1) dS_openSpots_19 vS_109 zT_hasPiece rfl rfl rfl rfl (Nat.le_of_ble_eq_true rfl) (Nat.le_of_ble_eq_true rfl) rfl rfl (fun p1 hz => cT_hasPiece hz) hs (fun r19 h19 hs => ?_)
      refine ev_jn (fun (j : Int32 → Hp → RO) => ∀ (s41 : Int32) (h41 : Hp), Sat post (j s41 h41) → Ev mS_openSpots 3 41 [(0, .inr 3), (1, .inl x1_4), (2, .inl x2_4)] [.inl s41, .inl x2_4, .inr 13] h41 post) hs (fun s41 h41 hs => ?_) (fun j41 hj41 hs => ?_)
      · refine ev_zast (pc := 41) dS_openSpots_41 hs (fun h41 hs => ?_)
        refine ev_aload_n (pc := 42) dS_openSpots_42 0 rfl rfl ?_
        refine ev_getR (pc := 43) dS_openSpots_43 lS_45 rfl rfl ?_
        refine ev_iload_n (pc := 46) dS_openSpots_46 2 rfl rfl ?_
        refine ev_aload_n (pc := 47) dS_openSpots_47 0 rfl rfl ?_
        refine ev_getR (pc := 48) dS_openSpots_48 lS_35 rfl rfl ?_
        refine ev_iload_n (pc := 51) dS_openSpots_51 2 rfl rfl ?_
        refine ev_zald (pc := 52) dS_openSpots_52 hs (fun r52 hs => ?_)
        refine ev_jn (fun (j : Int32 → Hp → RO) => ∀ (s68 : Int32) (h68 : Hp), Sat post (j s68 h68) → Ev mS_openSpots 3 68 [(0, .inr 3), (1, .inl x1_4), (2, .inl x2_4)] [.inl s68, .inl x2_4, .inr 16] h68 post) hs (fun s68 h68 hs => ?_) (fun j68 hj68 hs => ?_)
        · refine ev_iast (pc := 68) dS_openSpots_68 hs (fun h68 hs => ?_)
          refine ev_aload_n (pc := 69) dS_openSpots_69 0 rfl rfl ?_
          refine ev_getR (pc := 70) dS_openSpots_70 lS_48 rfl rfl ?_
          refine ev_iload_n (pc := 73) dS_openSpots_73 2 rfl rfl ?_
          refine ev_iconst (pc := 74) (v := 0) dS_openSpots_74 (by decide) ?_
          refine ev_iast (pc := 75) dS_openSpots_75 hs (fun h75 hs => ?_)
          refine ev_iload_n (pc := 76) dS_openSpots_76 1 rfl rfl ?_
          refine ev_aload_n (pc := 77) dS_openSpots_77 0 rfl rfl ?_
          refine ev_getR (pc := 78) dS_openSpots_78 lS_35 rfl rfl ?_
          refine ev_iload_n (pc := 81) dS_openSpots_81 2 rfl rfl ?_
          refine ev_zald (pc := 82) dS_openSpots_82 hs (fun r82 hs => ?_)
          refine ev_jn (fun (j : Int32 → Hp → RO) => ∀ (s100 : Int32) (h100 : Hp), Sat post (j s100 h100) → Ev mS_openSpots 3 100 [(0, .inr 3), (2, .inl x2_4)] [.inl s100, .inl x1_4] h100 post) hs (fun s100 h100 hs => ?_) (fun j100 hj100 hs => ?_)
          · refine ev_iand (pc := 100) dS_openSpots_100 ?_
            refine ev_bnd hs (fun v101 hs => ?_)
            refine ev_istore_n (pc := 101) (L' := [(0, .inr 3), (1, .inl v101), (2, .inl x2_4)]) dS_openSpots_101 rfl rfl (Nat.le_of_ble_eq_true rfl) rfl ?_
            refine ev_iinc (pc := 102) (L' := [(0, .inr 3), (1, .inl v101), (2, .inl (x2_4 + 1))]) (v := (x2_4 + 1)) dS_openSpots_102 2 rfl (congrArg (HAdd.hAdd _) (by decide)) rfl (Nat.le_of_ble_eq_true rfl) rfl ?_
            refine ev_goto (pc := 105) (tgt := 4) dS_openSpots_105 (by decide) ?_
            exact ih _ _ _ hs
          refine ev_jn (fun (j : Hp → RO) => ∀  (h95 : Hp), Sat post (j h95) → Ev mS_openSpots 3 95 [(0, .inr 3), (2, .inl x2_4)] [.inl x1_4] h95 post) hs (fun h95 hs => ?_) (fun j95 hj95 hs => ?_)
          · refine ev_iconst (pc := 95) (v := 1) dS_openSpots_95 (by decide) ?_
            refine ev_goto (pc := 96) (tgt := 100) dS_openSpots_96 (by decide) ?_
            exact hj100 _ _ hs
          refine ev_if_eq (pc := 83) (tgt := 95) dS_openSpots_83 (by decide) hs (fun hs => ?_) (fun hs => ?_)
          · refine ev_sub [(0, .inr 3), (2, .inl x2_4)] [0, 2] rfl ?_
            exact hj95 _ hs
          · refine ev_aload_n (pc := 86) dS_openSpots_86 0 rfl rfl ?_
            refine ev_getR (pc := 87) dS_openSpots_87 lS_45 rfl rfl ?_
            refine ev_iload_n (pc := 90) dS_openSpots_90 2 rfl rfl ?_
            refine ev_iald (pc := 91) dS_openSpots_91 hs (fun r91 hs => ?_)
            refine ev_if_eq (pc := 92) (tgt := 99) dS_openSpots_92 (by decide) hs (fun hs => ?_) (fun hs => ?_)
            · refine ev_iconst (pc := 99) (v := 0) dS_openSpots_99 (by decide) ?_
              refine ev_sub [(0, .inr 3), (2, .inl x2_4)] [0, 2] rfl ?_
              exact hj100 _ _ hs
            · refine ev_sub [(0, .inr 3), (2, .inl x2_4)] [0, 2] rfl ?_
              exact hj95 _ hs
        refine ev_if_eq (pc := 53) (tgt := 67) dS_openSpots_53 (by decide) hs (fun hs => ?_) (fun hs => ?_)
        · refine ev_iconst (pc := 67) (v := 0) dS_openSpots_67 (by decide) ?_
          exact hj68 _ _ hs
        · refine ev_aload_n (pc := 56) dS_openSpots_56 0 rfl rfl ?_
          refine ev_getR (pc := 57) dS_openSpots_57 lS_66 rfl rfl ?_
          refine ev_iload_n (pc := 60) dS_openSpots_60 2 rfl rfl ?_
          refine ev_callV (pc := 61) (As := [.inl x2_4]) (S := [.inl x2_4, .inr 16]) (d2 := 2) dS_openSpots_61 vS_116 zT_spotsOf rfl rfl rfl rfl (Nat.le_of_ble_eq_true rfl) (Nat.le_of_ble_eq_true rfl) rfl rfl (fun p1 hz => cT_spotsOf hz) hs (fun r61 h61 hs => ?_)
          refine ev_goto (pc := 64) (tgt := 68) dS_openSpots_64 (by decide) ?_
          exact hj68 _ _ hs
      refine ev_jn (fun (j : Hp → RO) => ∀  (h40 : Hp), Sat post (j h40) → Ev mS_openSpots 3 40 [(0, .inr 3), (1, .inl x1_4), (2, .inl x2_4)] [.inl x2_4, .inr 13] h40 post) hs (fun h40 hs => ?_) (fun j40 hj40 hs => ?_)
      · refine ev_iconst (pc := 40) (v := 0) dS_openSpots_40 (by decide) ?_
        exact hj41 _ _ hs
      refine ev_if_eq (pc := 22) (tgt := 40) dS_openSpots_22 (by decide) hs (fun hs => ?_) (fun hs => ?_)
      · exact hj40 _ hs
      · refine ev_aload_n (pc := 25) dS_openSpots_25 0 rfl rfl ?_
        refine ev_getR (pc := 26) dS_openSpots_26 lS_66 rfl rfl ?_
        refine ev_iload_n (pc := 29) dS_openSpots_29 2 rfl rfl ?_
        refine ev_callV (pc := 30) (As := [.inl x2_4]) (S := [.inl x2_4, .inr 13]) (d2 := 2) dS_openSpots_30 vS_113 zT_takesPart rfl rfl rfl rfl (Nat.le_of_ble_eq_true rfl) (Nat.le_of_ble_eq_true rfl) rfl rfl (fun p1 hz => cT_takesPart hz) hs (fun r30 h30 hs => ?_)
        refine ev_if_eq (pc := 33) (tgt := 40) dS_openSpots_33 (by decide) hs (fun hs => ?_) (fun hs => ?_)
        · exact hj40 _ hs
        · refine ev_iconst (pc := 36) (v := 1) dS_openSpots_36 (by decide) ?_
          refine ev_goto (pc := 37) (tgt := 41) dS_openSpots_37 (by decide) ?_
          exact hj41 _ _ hs
set_option maxHeartbeats 4000000 in
set_option maxRecDepth 100000 in
theorem cS_openSpots {h0 : Hp}  {post : Int32 → Hp → Prop} (hs : Sat post (fS_openSpots h0 )) : Mt mS_openSpots 3 [.inr 3] h0 post := by
  refine mt_body (L := [(0, .inr 3)]) (by decide +kernel) (Nat.le_of_ble_eq_true rfl) rfl ?_
  refine ev_iconst (pc := 0) (v := 1) dS_openSpots_0 (by decide) ?_
  refine ev_istore_n (pc := 1) (L' := [(0, .inr 3), (1, .inl 1)]) dS_openSpots_1 rfl rfl (Nat.le_of_ble_eq_true rfl) rfl ?_
  refine ev_iconst (pc := 2) (v := 0) dS_openSpots_2 (by decide) ?_
  refine ev_istore_n (pc := 3) (L' := [(0, .inr 3), (1, .inl 1), (2, .inl 0)]) dS_openSpots_3 rfl rfl (Nat.le_of_ble_eq_true rfl) rfl ?_
  exact cS_openSpots_L4  _ _ _ _ hs
set_option maxHeartbeats 4000000 in
set_option maxRecDepth 100000 in
theorem cS_join_L16 {x3 : Int32} {x4 : Int32} {post : Int32 → Hp → Prop}  : ∀ (n : Nat) (x5_16 : Int32) (h16 : Hp), Sat post (fS_join_L16 x3 x4 n x5_16 h16) → Ev mS_join 1 16 [(0, .inr 3), (3, .inl x3), (4, .inl x4), (5, .inl x5_16)] [] h16 post := by
  intro n
  induction n with
  | zero =>
    intro x5_16 h16 hs
    exact False.elim hs
  | succ n ih =>
    intro x5_16 h16 hs
    refine ev_iload (pc := 16) dS_join_16 3 rfl ?_
    refine ev_iconst (pc := 18) (v := 5) dS_join_18 (by decide) ?_
    refine ev_icmp_ge (pc := 19) (tgt := 48) dS_join_19 (by decide) hs (fun hs => ?_) (fun hs => ?_)
    · exact ev_vret rfl dS_join_48 hs
    · refine ev_aload_n (pc := 22) dS_join_22 0 rfl rfl ?_
      refine ev_getR (pc := 23) dS_join_23 lS_39 rfl rfl ?_
      refine ev_iload (pc := 26) dS_join_26 3 rfl ?_
      refine ev_iald (pc := 28) dS_join_28 hs (fun r28 hs => ?_)
      refine ev_iload (pc := 29) dS_join_29 2 rfl ?_
      refine ev_jn (fun (j : Hp → RO) => ∀  (h42 : Hp), Sat post (j h42) → Ev mS_join 1 42 [(0, .inr 3), (3, .inl x3), (4, .inl x4), (5, .inl x5_16)] [] h42 post) hs (fun h42 hs => ?_) (fun j42 hj42 hs => ?_)
      · refine ev_iinc (pc := 42) (L' := [(0, .inr 3), (3, .inl x3), (4, .inl x4), (5, .inl (x5_16 + 1))]) (v := (x5_16 + 1)) dS_join_42 3 rfl (congrArg (HAdd.hAdd _) (by decide)) rfl (Nat.le_of_ble_eq_true rfl) rfl ?_
        refine ev_goto (pc := 45) (tgt := 16) dS_join_45 (by decide) ?_
        exact ih _ _ hs
      refine ev_icmp_ne (pc := 31) (tgt := 42) dS_join_31 (by decide) hs (fun hs => ?_) (fun hs => ?_)
      · exact hj42 _ hs
      · refine ev_aload_n (pc := 34) dS_join_34 0 rfl rfl ?_
        refine ev_getR (pc := 35) dS_join_35 lS_39 rfl rfl ?_
        refine ev_iload (pc := 38) dS_join_38 3 rfl ?_
        refine ev_iload_n (pc := 40) dS_join_40 1 rfl rfl ?_
        refine ev_iast (pc := 41) dS_join_41 hs (fun h41 hs => ?_)
        exact hj42 _ hs
set_option maxHeartbeats 4000000 in
set_option maxRecDepth 100000 in
theorem cS_join {h0 : Hp} {x1 : Int32} {x2 : Int32} {post : Int32 → Hp → Prop} (hs : Sat post (fS_join h0 x1 x2)) : Mt mS_join 1 [.inr 3, .inl x1, .inl x2] h0 post := by
  refine mt_body (L := [(0, .inr 3), (1, .inl x1), (2, .inl x2)]) (by decide +kernel) (Nat.le_of_ble_eq_true rfl) rfl ?_
  refine ev_iload_n (pc := 0) dS_join_0 1 rfl rfl ?_
  refine ev_iload_n (pc := 1) dS_join_1 2 rfl rfl ?_
  refine ev_mmin (pc := 2) dS_join_2 qS_133 (Nat.le_of_ble_eq_true rfl) (Nat.le_of_ble_eq_true rfl) ?_
  refine ev_bnd hs (fun v5 hs => ?_)
  refine ev_istore_n (pc := 5) (L' := [(0, .inr 3), (1, .inl x1), (2, .inl x2), (3, .inl v5)]) dS_join_5 rfl rfl (Nat.le_of_ble_eq_true rfl) rfl ?_
  refine ev_iload_n (pc := 6) dS_join_6 1 rfl rfl ?_
  refine ev_iload_n (pc := 7) dS_join_7 2 rfl rfl ?_
  refine ev_mmax (pc := 8) dS_join_8 qS_138 (Nat.le_of_ble_eq_true rfl) (Nat.le_of_ble_eq_true rfl) ?_
  refine ev_bnd hs (fun v11 hs => ?_)
  refine ev_istore (pc := 11) (L' := [(0, .inr 3), (1, .inl x1), (2, .inl x2), (3, .inl v5), (4, .inl v11)]) dS_join_11 rfl (Nat.le_of_ble_eq_true rfl) rfl ?_
  refine ev_iconst (pc := 13) (v := 0) dS_join_13 (by decide) ?_
  refine ev_istore (pc := 14) (L' := [(0, .inr 3), (1, .inl x1), (2, .inl x2), (3, .inl v5), (4, .inl v11), (5, .inl 0)]) dS_join_14 rfl (Nat.le_of_ble_eq_true rfl) rfl ?_
  refine ev_sub [(0, .inr 3), (3, .inl v5), (4, .inl v11), (5, .inl 0)] [0, 3, 4, 5] rfl ?_
  exact cS_join_L16  _ _ _ hs
set_option maxHeartbeats 4000000 in
set_option maxRecDepth 100000 in
theorem cS_nextOfGroup_L4 {x1 : Int32} {post : Int32 → Hp → Prop}  : ∀ (n : Nat) (x2_4 : Int32) (h4 : Hp), Sat post (fS_nextOfGroup_L4 x1 n x2_4 h4) → Ev mS_nextOfGroup 0 4 [(0, .inr 3), (1, .inl x1), (2, .inl x2_4)] [] h4 post := by
  intro n
  induction n with
  | zero =>
    intro x2_4 h4 hs
    exact False.elim hs
  | succ n ih =>
    intro x2_4 h4 hs
    refine ev_iload_n (pc := 4) dS_nextOfGroup_4 2 rfl rfl ?_
    refine ev_iconst (pc := 5) (v := 5) dS_nextOfGroup_5 (by decide) ?_
    refine ev_icmp_ge (pc := 6) (tgt := 30) dS_nextOfGroup_6 (by decide) hs (fun hs => ?_) (fun hs => ?_)
    · refine ev_iload_n (pc := 30) dS_nextOfGroup_30 2 rfl rfl ?_
      exact ev_iret rfl dS_nextOfGroup_31 hs
    · refine ev_aload_n (pc := 9) dS_nextOfGroup_9 0 rfl rfl ?_
      refine ev_getR (pc := 10) dS_nextOfGroup_10 lS_39 rfl rfl ?_
      refine ev_iload_n (pc := 13) dS_nextOfGroup_13 2 rfl rfl ?_
      refine ev_iald (pc := 14) dS_nextOfGroup_14 hs (fun r14 hs => ?_)
      refine ev_aload_n (pc := 15) dS_nextOfGroup_15 0 rfl rfl ?_
      refine ev_getR (pc := 16) dS_nextOfGroup_16 lS_39 rfl rfl ?_
      refine ev_iload_n (pc := 19) dS_nextOfGroup_19 1 rfl rfl ?_
      refine ev_iald (pc := 20) dS_nextOfGroup_20 hs (fun r20 hs => ?_)
      refine ev_icmp_eq (pc := 21) (tgt := 30) dS_nextOfGroup_21 (by decide) hs (fun hs => ?_) (fun hs => ?_)
      · refine ev_iload_n (pc := 30) dS_nextOfGroup_30 2 rfl rfl ?_
        exact ev_iret rfl dS_nextOfGroup_31 hs
      · refine ev_iinc (pc := 24) (L' := [(0, .inr 3), (1, .inl x1), (2, .inl (x2_4 + 1))]) (v := (x2_4 + 1)) dS_nextOfGroup_24 2 rfl (congrArg (HAdd.hAdd _) (by decide)) rfl (Nat.le_of_ble_eq_true rfl) rfl ?_
        refine ev_goto (pc := 27) (tgt := 4) dS_nextOfGroup_27 (by decide) ?_
        exact ih _ _ hs
set_option maxHeartbeats 4000000 in
set_option maxRecDepth 100000 in
theorem cS_nextOfGroup {h0 : Hp} {x1 : Int32} {post : Int32 → Hp → Prop} (hs : Sat post (fS_nextOfGroup h0 x1)) : Mt mS_nextOfGroup 0 [.inr 3, .inl x1] h0 post := by
  refine mt_body (L := [(0, .inr 3), (1, .inl x1)]) (by decide +kernel) (Nat.le_of_ble_eq_true rfl) rfl ?_
  refine ev_iload_n (pc := 0) dS_nextOfGroup_0 1 rfl rfl ?_
  refine ev_iconst (pc := 1) (v := 1) dS_nextOfGroup_1 (by decide) ?_
  refine ev_iadd (pc := 2) dS_nextOfGroup_2 ?_
  refine ev_bnd hs (fun v3 hs => ?_)
  refine ev_istore_n (pc := 3) (L' := [(0, .inr 3), (1, .inl x1), (2, .inl v3)]) dS_nextOfGroup_3 rfl rfl (Nat.le_of_ble_eq_true rfl) rfl ?_
  exact cS_nextOfGroup_L4  _ _ _ hs
set_option maxHeartbeats 4000000 in
set_option maxRecDepth 100000 in
theorem cS_formGroups_L23 {k92 : Hp → RO} {x1 : Int32} {post : Int32 → Hp → Prop} (hk92 : ∀  (h : Hp), Sat post (k92 h) → Ev mS_formGroups 3 92 [(0, .inr 3), (1, .inl x1)] [] h post) : ∀ (n : Nat) (x2_23 : Int32) (h23 : Hp), Sat post (fS_formGroups_L23 k92 x1 n x2_23 h23) → Ev mS_formGroups 3 23 [(0, .inr 3), (1, .inl x1), (2, .inl x2_23)] [] h23 post := by
  intro n
  induction n with
  | zero =>
    intro x2_23 h23 hs
    exact False.elim hs
  | succ n ih =>
    intro x2_23 h23 hs
    refine ev_iload_n (pc := 23) dS_formGroups_23 2 rfl rfl ?_
    refine ev_iload_n (pc := 24) dS_formGroups_24 1 rfl rfl ?_
    refine ev_icmp_ge (pc := 25) (tgt := 92) dS_formGroups_25 (by decide) hs (fun hs => ?_) (fun hs => ?_)
    · refine ev_sub [(0, .inr 3), (1, .inl x1)] [0, 1] rfl ?_
      exact hk92 _ hs
    · refine ev_aload_n (pc := 28) dS_formGroups_28 0 rfl rfl ?_
      refine ev_getR (pc := 29) dS_formGroups_29 lS_35 rfl rfl ?_
      refine ev_iload_n (pc := 32) dS_formGroups_32 2 rfl rfl ?_
      refine ev_zald (pc := 33) dS_formGroups_33 hs (fun r33 hs => ?_)
      refine ev_jn (fun (j : Hp → RO) => ∀  (h86 : Hp), Sat post (j h86) → Ev mS_formGroups 3 86 [(0, .inr 3), (1, .inl x1), (2, .inl x2_23)] [] h86 post) hs (fun h86 hs => ?_) (fun j86 hj86 hs => ?_)
      · refine ev_iinc (pc := 86) (L' := [(0, .inr 3), (1, .inl x1), (2, .inl (x2_23 + 1))]) (v := (x2_23 + 1)) dS_formGroups_86 2 rfl (congrArg (HAdd.hAdd _) (by decide)) rfl (Nat.le_of_ble_eq_true rfl) rfl ?_
        refine ev_goto (pc := 89) (tgt := 23) dS_formGroups_89 (by decide) ?_
        exact ih _ _ hs
      refine ev_if_eq (pc := 34) (tgt := 86) dS_formGroups_34 (by decide) hs (fun hs => ?_) (fun hs => ?_)
      · exact hj86 _ hs
      · refine ev_aload_n (pc := 37) dS_formGroups_37 0 rfl rfl ?_
        refine ev_getR (pc := 38) dS_formGroups_38 lS_35 rfl rfl ?_
        refine ev_iload_n (pc := 41) dS_formGroups_41 1 rfl rfl ?_
        refine ev_zald (pc := 42) dS_formGroups_42 hs (fun r42 hs => ?_)
        refine ev_if_eq (pc := 43) (tgt := 86) dS_formGroups_43 (by decide) hs (fun hs => ?_) (fun hs => ?_)
        · exact hj86 _ hs
        · refine ev_aload_n (pc := 46) dS_formGroups_46 0 rfl rfl ?_
          refine ev_getR (pc := 47) dS_formGroups_47 lS_75 rfl rfl ?_
          refine ev_iload_n (pc := 50) dS_formGroups_50 2 rfl rfl ?_
          refine ev_iload_n (pc := 51) dS_formGroups_51 1 rfl rfl ?_
          refine ev_aload_n (pc := 52) dS_formGroups_52 0 rfl rfl ?_
          refine ev_getR (pc := 53) dS_formGroups_53 lS_45 rfl rfl ?_
          refine ev_iload_n (pc := 56) dS_formGroups_56 2 rfl rfl ?_
          refine ev_iald (pc := 57) dS_formGroups_57 hs (fun r57 hs => ?_)
          refine ev_aload_n (pc := 58) dS_formGroups_58 0 rfl rfl ?_
          refine ev_getR (pc := 59) dS_formGroups_59 lS_45 rfl rfl ?_
          refine ev_iload_n (pc := 62) dS_formGroups_62 1 rfl rfl ?_
          refine ev_iald (pc := 63) dS_formGroups_63 hs (fun r63 hs => ?_)
          refine ev_callV (pc := 64) (As := [.inl x2_23, .inl x1, .inl r57, .inl r63]) (S := []) (d2 := 2) dS_formGroups_64 vS_122 zC_reckon rfl rfl rfl rfl (Nat.le_of_ble_eq_true rfl) (Nat.le_of_ble_eq_true rfl) rfl rfl (fun p1 hz => cC_reckon hz) hs (fun r64 h64 hs => ?_)
          refine ev_if_eq (pc := 67) (tgt := 86) dS_formGroups_67 (by decide) hs (fun hs => ?_) (fun hs => ?_)
          · exact hj86 _ hs
          · refine ev_aload_n (pc := 70) dS_formGroups_70 0 rfl rfl ?_
            refine ev_aload_n (pc := 71) dS_formGroups_71 0 rfl rfl ?_
            refine ev_getR (pc := 72) dS_formGroups_72 lS_39 rfl rfl ?_
            refine ev_iload_n (pc := 75) dS_formGroups_75 2 rfl rfl ?_
            refine ev_iald (pc := 76) dS_formGroups_76 hs (fun r76 hs => ?_)
            refine ev_aload_n (pc := 77) dS_formGroups_77 0 rfl rfl ?_
            refine ev_getR (pc := 78) dS_formGroups_78 lS_39 rfl rfl ?_
            refine ev_iload_n (pc := 81) dS_formGroups_81 1 rfl rfl ?_
            refine ev_iald (pc := 82) dS_formGroups_82 hs (fun r82 hs => ?_)
            refine ev_callVv (pc := 83) (As := [.inl r76, .inl r82]) (S := []) (d2 := 1) dS_formGroups_83 vS_126 zS_join rfl rfl rfl rfl (Nat.le_of_ble_eq_true rfl) (Nat.le_of_ble_eq_true rfl) rfl rfl (fun p1 hz => cS_join hz) hs (fun r83 h83 hs => ?_)
            exact hj86 _ hs
set_option maxHeartbeats 4000000 in
set_option maxRecDepth 100000 in
theorem cS_formGroups_L9 {k98 : Hp → RO} {post : Int32 → Hp → Prop} (hk98 : ∀  (h : Hp), Sat post (k98 h) → Ev mS_formGroups 3 98 [(0, .inr 3)] [] h post) : ∀ (n : Nat) (x1_9 : Int32) (h9 : Hp), Sat post (fS_formGroups_L9 k98 n x1_9 h9) → Ev mS_formGroups 3 9 [(0, .inr 3), (1, .inl x1_9)] [] h9 post := by
  intro n
  induction n with
  | zero =>
    intro x1_9 h9 hs
    exact False.elim hs
  | succ n ih =>
    intro x1_9 h9 hs
    refine ev_iload_n (pc := 9) dS_formGroups_9 1 rfl rfl ?_
    refine ev_iconst (pc := 10) (v := 5) dS_formGroups_10 (by decide) ?_
    refine ev_icmp_ge (pc := 11) (tgt := 98) dS_formGroups_11 (by decide) hs (fun hs => ?_) (fun hs => ?_)
    · refine ev_sub [(0, .inr 3)] [0] rfl ?_
      exact hk98 _ hs
    · refine ev_aload_n (pc := 14) dS_formGroups_14 0 rfl rfl ?_
      refine ev_getR (pc := 15) dS_formGroups_15 lS_39 rfl rfl ?_
      refine ev_iload_n (pc := 18) dS_formGroups_18 1 rfl rfl ?_
      refine ev_iload_n (pc := 19) dS_formGroups_19 1 rfl rfl ?_
      refine ev_iast (pc := 20) dS_formGroups_20 hs (fun h20 hs => ?_)
      refine ev_iconst (pc := 21) (v := 0) dS_formGroups_21 (by decide) ?_
      refine ev_istore_n (pc := 22) (L' := [(0, .inr 3), (1, .inl x1_9), (2, .inl 0)]) dS_formGroups_22 rfl rfl (Nat.le_of_ble_eq_true rfl) rfl ?_
      refine cS_formGroups_L23 (fun h92 hs => ?_) _ _ _ hs
      refine ev_iinc (pc := 92) (L' := [(0, .inr 3), (1, .inl (x1_9 + 1))]) (v := (x1_9 + 1)) dS_formGroups_92 1 rfl (congrArg (HAdd.hAdd _) (by decide)) rfl (Nat.le_of_ble_eq_true rfl) rfl ?_
      refine ev_goto (pc := 95) (tgt := 9) dS_formGroups_95 (by decide) ?_
      exact ih _ _ hs
set_option maxHeartbeats 4000000 in
set_option maxRecDepth 100000 in
theorem cS_formGroups_L100  {post : Int32 → Hp → Prop}  : ∀ (n : Nat) (x1_100 : Int32) (h100 : Hp), Sat post (fS_formGroups_L100 n x1_100 h100) → Ev mS_formGroups 3 100 [(0, .inr 3), (1, .inl x1_100)] [] h100 post := by
  intro n
  induction n with
  | zero =>
    intro x1_100 h100 hs
    exact False.elim hs
  | succ n ih =>
    intro x1_100 h100 hs
    refine ev_iload_n (pc := 100) dS_formGroups_100 1 rfl rfl ?_
    refine ev_iconst (pc := 101) (v := 5) dS_formGroups_101 (by decide) ?_
    refine ev_icmp_ge (pc := 102) (tgt := 122) dS_formGroups_102 (by decide) hs (fun hs => ?_) (fun hs => ?_)
    · exact ev_vret rfl dS_formGroups_122 hs
    · refine ev_aload_n (pc := 105) dS_formGroups_105 0 rfl rfl ?_
      refine ev_getR (pc := 106) dS_formGroups_106 lS_42 rfl rfl ?_
      refine ev_iload_n (pc := 109) dS_formGroups_109 1 rfl rfl ?_
      refine ev_aload_n (pc := 110) dS_formGroups_110 0 rfl rfl ?_
      refine ev_iload_n (pc := 111) dS_formGroups_111 1 rfl rfl ?_
      refine ev_callV (pc := 112) (As := [.inl x1_100]) (S := [.inl x1_100, .inr 15]) (d2 := 0) dS_formGroups_112 vS_130 zS_nextOfGroup rfl rfl rfl rfl (Nat.le_of_ble_eq_true rfl) (Nat.le_of_ble_eq_true rfl) rfl rfl (fun p1 hz => cS_nextOfGroup hz) hs (fun r112 h112 hs => ?_)
      refine ev_iast (pc := 115) dS_formGroups_115 hs (fun h115 hs => ?_)
      refine ev_iinc (pc := 116) (L' := [(0, .inr 3), (1, .inl (x1_100 + 1))]) (v := (x1_100 + 1)) dS_formGroups_116 1 rfl (congrArg (HAdd.hAdd _) (by decide)) rfl (Nat.le_of_ble_eq_true rfl) rfl ?_
      refine ev_goto (pc := 119) (tgt := 100) dS_formGroups_119 (by decide) ?_
      exact ih _ _ hs
set_option maxHeartbeats 4000000 in
set_option maxRecDepth 100000 in
theorem cS_formGroups {h0 : Hp}  {post : Int32 → Hp → Prop} (hs : Sat post (fS_formGroups h0 )) : Mt mS_formGroups 3 [.inr 3] h0 post := by
  refine mt_body (L := [(0, .inr 3)]) (by decide +kernel) (Nat.le_of_ble_eq_true rfl) rfl ?_
  refine ev_aload_n (pc := 0) dS_formGroups_0 0 rfl rfl ?_
  refine ev_getR (pc := 1) dS_formGroups_1 lS_75 rfl rfl ?_
  refine ev_callVv (pc := 4) (As := []) (S := []) (d2 := 2) dS_formGroups_4 vS_119 zC_readCopies rfl rfl rfl rfl (Nat.le_of_ble_eq_true rfl) (Nat.le_of_ble_eq_true rfl) rfl rfl (fun p1 hz => cC_readCopies hz) hs (fun r4 h4 hs => ?_)
  refine ev_iconst (pc := 7) (v := 0) dS_formGroups_7 (by decide) ?_
  refine ev_istore_n (pc := 8) (L' := [(0, .inr 3), (1, .inl 0)]) dS_formGroups_8 rfl rfl (Nat.le_of_ble_eq_true rfl) rfl ?_
  refine cS_formGroups_L9 (fun h98 hs => ?_) _ _ _ hs
  refine ev_iconst (pc := 98) (v := 0) dS_formGroups_98 (by decide) ?_
  refine ev_istore_n (pc := 99) (L' := [(0, .inr 3), (1, .inl 0)]) dS_formGroups_99 rfl rfl (Nat.le_of_ble_eq_true rfl) rfl ?_
  exact cS_formGroups_L100  _ _ _ hs
set_option maxHeartbeats 4000000 in
set_option maxRecDepth 100000 in
theorem cS_leadsGroup {h0 : Hp} {x1 : Int32} {post : Int32 → Hp → Prop} (hs : Sat post (fS_leadsGroup h0 x1)) : Mt mS_leadsGroup 0 [.inr 3, .inl x1] h0 post := by
  refine mt_body (L := [(0, .inr 3), (1, .inl x1)]) (by decide +kernel) (Nat.le_of_ble_eq_true rfl) rfl ?_
  refine ev_aload_n (pc := 0) dS_leadsGroup_0 0 rfl rfl ?_
  refine ev_getR (pc := 1) dS_leadsGroup_1 lS_35 rfl rfl ?_
  refine ev_iload_n (pc := 4) dS_leadsGroup_4 1 rfl rfl ?_
  refine ev_zald (pc := 5) dS_leadsGroup_5 hs (fun r5 hs => ?_)
  refine ev_if_eq (pc := 6) (tgt := 23) dS_leadsGroup_6 (by decide) hs (fun hs => ?_) (fun hs => ?_)
  · refine ev_iconst (pc := 23) (v := 0) dS_leadsGroup_23 (by decide) ?_
    exact ev_zret rfl dS_leadsGroup_24 hs
  · refine ev_aload_n (pc := 9) dS_leadsGroup_9 0 rfl rfl ?_
    refine ev_getR (pc := 10) dS_leadsGroup_10 lS_39 rfl rfl ?_
    refine ev_iload_n (pc := 13) dS_leadsGroup_13 1 rfl rfl ?_
    refine ev_iald (pc := 14) dS_leadsGroup_14 hs (fun r14 hs => ?_)
    refine ev_iload_n (pc := 15) dS_leadsGroup_15 1 rfl rfl ?_
    refine ev_icmp_ne (pc := 16) (tgt := 23) dS_leadsGroup_16 (by decide) hs (fun hs => ?_) (fun hs => ?_)
    · refine ev_iconst (pc := 23) (v := 0) dS_leadsGroup_23 (by decide) ?_
      exact ev_zret rfl dS_leadsGroup_24 hs
    · refine ev_iconst (pc := 19) (v := 1) dS_leadsGroup_19 (by decide) ?_
      refine ev_goto (pc := 20) (tgt := 24) dS_leadsGroup_20 (by decide) ?_
      exact ev_zret rfl dS_leadsGroup_24 hs
set_option maxHeartbeats 4000000 in
set_option maxRecDepth 100000 in
theorem cS_loadOf {h0 : Hp} {x1 : Int32} {x2 : Int32} {post : Int32 → Hp → Prop} (hs : Sat post (fS_loadOf h0 x1 x2)) : Mt mS_loadOf 0 [.inr 3, .inl x1, .inl x2] h0 post := by
  refine mt_body (L := [(0, .inr 3), (1, .inl x1), (2, .inl x2)]) (by decide +kernel) (Nat.le_of_ble_eq_true rfl) rfl ?_
  refine ev_aload_n (pc := 0) dS_loadOf_0 0 rfl rfl ?_
  refine ev_getR (pc := 1) dS_loadOf_1 lS_63 rfl rfl ?_
  refine ev_iload_n (pc := 4) dS_loadOf_4 1 rfl rfl ?_
  refine ev_bipush (pc := 5) (v := 45) dS_loadOf_5 (by decide) ?_
  refine ev_imul (pc := 7) dS_loadOf_7 ?_
  refine ev_iload_n (pc := 8) dS_loadOf_8 1 rfl rfl ?_
  refine ev_bipush (pc := 9) (v := 9) dS_loadOf_9 (by decide) ?_
  refine ev_imul (pc := 11) dS_loadOf_11 ?_
  refine ev_iadd (pc := 12) dS_loadOf_12 ?_
  refine ev_iload_n (pc := 13) dS_loadOf_13 2 rfl rfl ?_
  refine ev_iadd (pc := 14) dS_loadOf_14 ?_
  refine ev_iald (pc := 15) dS_loadOf_15 hs (fun r15 hs => ?_)
  exact ev_iret rfl dS_loadOf_16 hs
set_option maxHeartbeats 4000000 in
set_option maxRecDepth 100000 in
theorem cS_lay_L68 {k117 : Hp → RO} {x1 : Int32} {x2 : Int32} {x3 : Int32} {x4 : Int32} {x5 : Int32} {x6 : Int32} {x7 : Int32} {post : Int32 → Hp → Prop} (hk117 : ∀  (h : Hp), Sat post (k117 h) → Ev mS_lay 1 117 [(0, .inr 3), (1, .inl x1), (2, .inl x2), (3, .inl x3), (4, .inl x4)] [] h post) : ∀ (n : Nat) (x8_68 : Int32) (h68 : Hp), Sat post (fS_lay_L68 k117 x1 x2 x3 x4 x5 x6 x7 n x8_68 h68) → Ev mS_lay 1 68 [(0, .inr 3), (1, .inl x1), (2, .inl x2), (3, .inl x3), (4, .inl x4), (5, .inl x5), (6, .inl x6), (7, .inl x7), (8, .inl x8_68)] [] h68 post := by
  intro n
  induction n with
  | zero =>
    intro x8_68 h68 hs
    exact False.elim hs
  | succ n ih =>
    intro x8_68 h68 hs
    refine ev_iload (pc := 68) dS_lay_68 8 rfl ?_
    refine ev_aload_n (pc := 70) dS_lay_70 0 rfl rfl ?_
    refine ev_getI (pc := 71) dS_lay_71 lS_15 rfl rfl ?_
    refine ev_icmp_ge (pc := 74) (tgt := 117) dS_lay_74 (by decide) hs (fun hs => ?_) (fun hs => ?_)
    · refine ev_sub [(0, .inr 3), (1, .inl x1), (2, .inl x2), (3, .inl x3), (4, .inl x4)] [0, 1, 2, 3, 4] rfl ?_
      exact hk117 _ hs
    · refine ev_aload_n (pc := 77) dS_lay_77 0 rfl rfl ?_
      refine ev_getR (pc := 78) dS_lay_78 lS_63 rfl rfl ?_
      refine ev_iload (pc := 81) dS_lay_81 6 rfl ?_
      refine ev_iload (pc := 83) dS_lay_83 8 rfl ?_
      refine ev_iadd (pc := 85) dS_lay_85 ?_
      refine ev_aload_n (pc := 86) dS_lay_86 0 rfl rfl ?_
      refine ev_getR (pc := 87) dS_lay_87 lS_63 rfl rfl ?_
      refine ev_iload (pc := 90) dS_lay_90 5 rfl ?_
      refine ev_iload (pc := 92) dS_lay_92 8 rfl ?_
      refine ev_iadd (pc := 94) dS_lay_94 ?_
      refine ev_iald (pc := 95) dS_lay_95 hs (fun r95 hs => ?_)
      refine ev_aload_n (pc := 96) dS_lay_96 0 rfl rfl ?_
      refine ev_getR (pc := 97) dS_lay_97 lS_75 rfl rfl ?_
      refine ev_getR (pc := 100) dS_lay_100 lS_175 rfl rfl ?_
      refine ev_iload (pc := 103) dS_lay_103 7 rfl ?_
      refine ev_iload (pc := 105) dS_lay_105 8 rfl ?_
      refine ev_iadd (pc := 107) dS_lay_107 ?_
      refine ev_iald (pc := 108) dS_lay_108 hs (fun r108 hs => ?_)
      refine ev_iadd (pc := 109) dS_lay_109 ?_
      refine ev_iast (pc := 110) dS_lay_110 hs (fun h110 hs => ?_)
      refine ev_iinc (pc := 111) (L' := [(0, .inr 3), (1, .inl x1), (2, .inl x2), (3, .inl x3), (4, .inl x4), (5, .inl x5), (6, .inl x6), (7, .inl x7), (8, .inl (x8_68 + 1))]) (v := (x8_68 + 1)) dS_lay_111 8 rfl (congrArg (HAdd.hAdd _) (by decide)) rfl (Nat.le_of_ble_eq_true rfl) rfl ?_
      refine ev_goto (pc := 114) (tgt := 68) dS_lay_114 (by decide) ?_
      exact ih _ _ hs
set_option maxHeartbeats 4000000 in
set_option maxRecDepth 100000 in
theorem cS_lay_L10 {x1 : Int32} {x2 : Int32} {x3 : Int32} {post : Int32 → Hp → Prop}  : ∀ (n : Nat) (x4_10 : Int32) (h10 : Hp), Sat post (fS_lay_L10 x1 x2 x3 n x4_10 h10) → Ev mS_lay 1 10 [(0, .inr 3), (1, .inl x1), (2, .inl x2), (3, .inl x3), (4, .inl x4_10)] [] h10 post := by
  intro n
  induction n with
  | zero =>
    intro x4_10 h10 hs
    exact False.elim hs
  | succ n ih =>
    intro x4_10 h10 hs
    refine ev_iload (pc := 10) dS_lay_10 4 rfl ?_
    refine ev_iconst (pc := 12) (v := 5) dS_lay_12 (by decide) ?_
    refine ev_icmp_ge (pc := 13) (tgt := 123) dS_lay_13 (by decide) hs (fun hs => ?_) (fun hs => ?_)
    · exact ev_vret rfl dS_lay_123 hs
    · refine ev_aload_n (pc := 16) dS_lay_16 0 rfl rfl ?_
      refine ev_getR (pc := 17) dS_lay_17 lS_39 rfl rfl ?_
      refine ev_iload (pc := 20) dS_lay_20 4 rfl ?_
      refine ev_iald (pc := 22) dS_lay_22 hs (fun r22 hs => ?_)
      refine ev_aload_n (pc := 23) dS_lay_23 0 rfl rfl ?_
      refine ev_getR (pc := 24) dS_lay_24 lS_39 rfl rfl ?_
      refine ev_iload_n (pc := 27) dS_lay_27 1 rfl rfl ?_
      refine ev_iald (pc := 28) dS_lay_28 hs (fun r28 hs => ?_)
      refine ev_jn (fun (j : Hp → RO) => ∀  (h117 : Hp), Sat post (j h117) → Ev mS_lay 1 117 [(0, .inr 3), (1, .inl x1), (2, .inl x2), (3, .inl x3), (4, .inl x4_10)] [] h117 post) hs (fun h117 hs => ?_) (fun j117 hj117 hs => ?_)
      · refine ev_iinc (pc := 117) (L' := [(0, .inr 3), (1, .inl x1), (2, .inl x2), (3, .inl x3), (4, .inl (x4_10 + 1))]) (v := (x4_10 + 1)) dS_lay_117 4 rfl (congrArg (HAdd.hAdd _) (by decide)) rfl (Nat.le_of_ble_eq_true rfl) rfl ?_
        refine ev_goto (pc := 120) (tgt := 10) dS_lay_120 (by decide) ?_
        exact ih _ _ hs
      refine ev_icmp_ne (pc := 29) (tgt := 117) dS_lay_29 (by decide) hs (fun hs => ?_) (fun hs => ?_)
      · exact hj117 _ hs
      · refine ev_iload_n (pc := 32) dS_lay_32 1 rfl rfl ?_
        refine ev_bipush (pc := 33) (v := 45) dS_lay_33 (by decide) ?_
        refine ev_imul (pc := 35) dS_lay_35 ?_
        refine ev_iload (pc := 36) dS_lay_36 4 rfl ?_
        refine ev_bipush (pc := 38) (v := 9) dS_lay_38 (by decide) ?_
        refine ev_imul (pc := 40) dS_lay_40 ?_
        refine ev_iadd (pc := 41) dS_lay_41 ?_
        refine ev_bnd hs (fun v42 hs => ?_)
        refine ev_istore (pc := 42) (L' := [(0, .inr 3), (1, .inl x1), (2, .inl x2), (3, .inl x3), (4, .inl x4_10), (5, .inl v42)]) dS_lay_42 rfl (Nat.le_of_ble_eq_true rfl) rfl ?_
        refine ev_iload_n (pc := 44) dS_lay_44 3 rfl rfl ?_
        refine ev_bipush (pc := 45) (v := 45) dS_lay_45 (by decide) ?_
        refine ev_imul (pc := 47) dS_lay_47 ?_
        refine ev_iload (pc := 48) dS_lay_48 4 rfl ?_
        refine ev_bipush (pc := 50) (v := 9) dS_lay_50 (by decide) ?_
        refine ev_imul (pc := 52) dS_lay_52 ?_
        refine ev_iadd (pc := 53) dS_lay_53 ?_
        refine ev_bnd hs (fun v54 hs => ?_)
        refine ev_istore (pc := 54) (L' := [(0, .inr 3), (1, .inl x1), (2, .inl x2), (3, .inl x3), (4, .inl x4_10), (5, .inl v42), (6, .inl v54)]) dS_lay_54 rfl (Nat.le_of_ble_eq_true rfl) rfl ?_
        refine ev_iload_n (pc := 56) dS_lay_56 1 rfl rfl ?_
        refine ev_iload (pc := 57) dS_lay_57 4 rfl ?_
        refine ev_iload_n (pc := 59) dS_lay_59 2 rfl rfl ?_
        refine ev_callS (pc := 60) (As := [.inl x1, .inl x4_10, .inl x2]) (S := []) (d2 := 0) dS_lay_60 (Or.inl vS_171) zC_rowOf rfl (Nat.le_of_ble_eq_true rfl) (Nat.le_of_ble_eq_true rfl) rfl rfl (fun p1 hz => cC_rowOf hz) hs (fun r60 h60 hs => ?_)
        refine ev_istore (pc := 63) (L' := [(0, .inr 3), (1, .inl x1), (2, .inl x2), (3, .inl x3), (4, .inl x4_10), (5, .inl v42), (6, .inl v54), (7, .inl r60)]) dS_lay_63 rfl (Nat.le_of_ble_eq_true rfl) rfl ?_
        refine ev_iconst (pc := 65) (v := 0) dS_lay_65 (by decide) ?_
        refine ev_istore (pc := 66) (L' := [(0, .inr 3), (1, .inl x1), (2, .inl x2), (3, .inl x3), (4, .inl x4_10), (5, .inl v42), (6, .inl v54), (7, .inl r60), (8, .inl 0)]) dS_lay_66 rfl (Nat.le_of_ble_eq_true rfl) rfl ?_
        refine cS_lay_L68 (fun h117 hs => ?_) _ _ _ hs
        exact hj117 _ hs
set_option maxHeartbeats 4000000 in
set_option maxRecDepth 100000 in
theorem cS_lay {h0 : Hp} {x1 : Int32} {x2 : Int32} {post : Int32 → Hp → Prop} (hs : Sat post (fS_lay h0 x1 x2)) : Mt mS_lay 1 [.inr 3, .inl x1, .inl x2] h0 post := by
  refine mt_body (L := [(0, .inr 3), (1, .inl x1), (2, .inl x2)]) (by decide +kernel) (Nat.le_of_ble_eq_true rfl) rfl ?_
  refine ev_aload_n (pc := 0) dS_lay_0 0 rfl rfl ?_
  refine ev_getR (pc := 1) dS_lay_1 lS_42 rfl rfl ?_
  refine ev_iload_n (pc := 4) dS_lay_4 1 rfl rfl ?_
  refine ev_iald (pc := 5) dS_lay_5 hs (fun r5 hs => ?_)
  refine ev_istore_n (pc := 6) (L' := [(0, .inr 3), (1, .inl x1), (2, .inl x2), (3, .inl r5)]) dS_lay_6 rfl rfl (Nat.le_of_ble_eq_true rfl) rfl ?_
  refine ev_iload_n (pc := 7) dS_lay_7 3 rfl rfl ?_
  refine ev_istore (pc := 8) (L' := [(0, .inr 3), (1, .inl x1), (2, .inl x2), (3, .inl r5), (4, .inl r5)]) dS_lay_8 rfl (Nat.le_of_ble_eq_true rfl) rfl ?_
  exact cS_lay_L10  _ _ _ hs
set_option maxHeartbeats 4000000 in
set_option maxRecDepth 100000 in
theorem cS_lower_L13 {dd : Nat} {rc : Int32 → Int32 → Hp → RO} {x1 : Int32} {x2 : Int32} {post : Int32 → Hp → Prop} (hrc : ∀ (z0 : Int32) (z1 : Int32) (h : Hp) (p1 : Int32 → Hp → Prop), Sat p1 (rc z0 z1 h) → Mt mS_lower (dd + 2) [.inr 3, .inl z0, .inl z1] h p1) : ∀ (n : Nat) (x3_13 : Int32) (h13 : Hp), Sat post (fS_lower_L13 rc x1 x2 n x3_13 h13) → Ev mS_lower (dd + 1 + 2) 13 [(0, .inr 3), (1, .inl x1), (2, .inl x2), (3, .inl x3_13)] [] h13 post := by
  intro n
  induction n with
  | zero =>
    intro x3_13 h13 hs
    exact False.elim hs
  | succ n ih =>
    intro x3_13 h13 hs
    refine ev_iload_n (pc := 13) dS_lower_13 3 rfl rfl ?_
    refine ev_aload_n (pc := 14) dS_lower_14 0 rfl rfl ?_
    refine ev_getI (pc := 15) dS_lower_15 lS_15 rfl rfl ?_
    refine ev_icmp_ge (pc := 18) (tgt := 79) dS_lower_18 (by decide) hs (fun hs => ?_) (fun hs => ?_)
    · exact ev_vret rfl dS_lower_79 hs
    · refine ev_aload_n (pc := 21) dS_lower_21 0 rfl rfl ?_
      refine ev_getR (pc := 22) dS_lower_22 lS_45 rfl rfl ?_
      refine ev_iload_n (pc := 25) dS_lower_25 1 rfl rfl ?_
      refine ev_iald (pc := 26) dS_lower_26 hs (fun r26 hs => ?_)
      refine ev_iload_n (pc := 27) dS_lower_27 3 rfl rfl ?_
      refine ev_callS (pc := 28) (As := [.inl r26, .inl x3_13]) (S := []) (d2 := 0) dS_lower_28 (Or.inr vS_178) zX_isIn rfl (Nat.le_of_ble_eq_true rfl) (by omega) rfl rfl (fun p1 hz => cX_isIn hz) hs (fun r28 h28 hs => ?_)
      refine ev_jn (fun (j : Hp → RO) => ∀  (h73 : Hp), Sat post (j h73) → Ev mS_lower (dd + 1 + 2) 73 [(0, .inr 3), (1, .inl x1), (2, .inl x2), (3, .inl x3_13)] [] h73 post) hs (fun h73 hs => ?_) (fun j73 hj73 hs => ?_)
      · refine ev_iinc (pc := 73) (L' := [(0, .inr 3), (1, .inl x1), (2, .inl x2), (3, .inl (x3_13 + 1))]) (v := (x3_13 + 1)) dS_lower_73 3 rfl (congrArg (HAdd.hAdd _) (by decide)) rfl (Nat.le_of_ble_eq_true rfl) rfl ?_
        refine ev_goto (pc := 76) (tgt := 13) dS_lower_76 (by decide) ?_
        exact ih _ _ hs
      refine ev_if_eq (pc := 31) (tgt := 73) dS_lower_31 (by decide) hs (fun hs => ?_) (fun hs => ?_)
      · exact hj73 _ hs
      · refine ev_iload_n (pc := 34) dS_lower_34 2 rfl rfl ?_
        refine ev_aload_n (pc := 35) dS_lower_35 0 rfl rfl ?_
        refine ev_iload_n (pc := 36) dS_lower_36 1 rfl rfl ?_
        refine ev_iload_n (pc := 37) dS_lower_37 3 rfl rfl ?_
        refine ev_callV (pc := 38) (As := [.inl x1, .inl x3_13]) (S := [.inl x2]) (d2 := 0) dS_lower_38 vS_182 zS_loadOf rfl rfl rfl rfl (Nat.le_of_ble_eq_true rfl) (by omega) rfl rfl (fun p1 hz => cS_loadOf hz) hs (fun r38 h38 hs => ?_)
        refine ev_iadd (pc := 41) dS_lower_41 ?_
        refine ev_aload_n (pc := 42) dS_lower_42 0 rfl rfl ?_
        refine ev_getI (pc := 43) dS_lower_43 lS_29 rfl rfl ?_
        refine ev_icmp_ge (pc := 46) (tgt := 73) dS_lower_46 (by decide) hs (fun hs => ?_) (fun hs => ?_)
        · exact hj73 _ hs
        · refine ev_aload_n (pc := 49) dS_lower_49 0 rfl rfl ?_
          refine ev_iload_n (pc := 50) dS_lower_50 1 rfl rfl ?_
          refine ev_iload_n (pc := 51) dS_lower_51 3 rfl rfl ?_
          refine ev_callVv (pc := 52) (As := [.inl x1, .inl x3_13]) (S := []) (d2 := 1) dS_lower_52 vS_185 zS_lay rfl rfl rfl rfl (Nat.le_of_ble_eq_true rfl) (by omega) rfl rfl (fun p1 hz => cS_lay hz) hs (fun r52 h52 hs => ?_)
          refine ev_aload_n (pc := 55) dS_lower_55 0 rfl rfl ?_
          refine ev_aload_n (pc := 56) dS_lower_56 0 rfl rfl ?_
          refine ev_getR (pc := 57) dS_lower_57 lS_42 rfl rfl ?_
          refine ev_iload_n (pc := 60) dS_lower_60 1 rfl rfl ?_
          refine ev_iald (pc := 61) dS_lower_61 hs (fun r61 hs => ?_)
          refine ev_iload_n (pc := 62) dS_lower_62 2 rfl rfl ?_
          refine ev_aload_n (pc := 63) dS_lower_63 0 rfl rfl ?_
          refine ev_iload_n (pc := 64) dS_lower_64 1 rfl rfl ?_
          refine ev_iload_n (pc := 65) dS_lower_65 3 rfl rfl ?_
          refine ev_callV (pc := 66) (As := [.inl x1, .inl x3_13]) (S := [.inl x2, .inl r61, .inr 3]) (d2 := 0) dS_lower_66 vS_182 zS_loadOf rfl rfl rfl rfl (Nat.le_of_ble_eq_true rfl) (by omega) rfl rfl (fun p1 hz => cS_loadOf hz) hs (fun r66 h66 hs => ?_)
          refine ev_iadd (pc := 69) dS_lower_69 ?_
          refine ev_callVv (pc := 70) (As := [.inl r61, .inl (x2 + r66)]) (S := []) (d2 := (dd + 2)) dS_lower_70 vS_151 zS_lower rfl rfl rfl rfl (Nat.le_of_ble_eq_true rfl) (by omega) rfl rfl (fun p1 hz => hrc _ _ _ p1 hz) hs (fun r70 h70 hs => ?_)
          exact hj73 _ hs
set_option maxHeartbeats 4000000 in
set_option maxRecDepth 100000 in
theorem cS_lower : ∀ (n : Nat) (h0 : Hp) (x1 : Int32) (x2 : Int32) (post : Int32 → Hp → Prop), Sat post (fS_lower n x1 x2 h0) → Mt mS_lower (n + 2) [.inr 3, .inl x1, .inl x2] h0 post := by
  intro n
  induction n with
  | zero =>
    intro h0 x1 x2 post hs
    exact False.elim hs
  | succ n ihr =>
    intro h0 x1 x2 post hs
    rw [show n + 1 + 2 = n + 1 + 2 from rfl]
    refine mt_body (L := [(0, .inr 3), (1, .inl x1), (2, .inl x2)]) (by decide +kernel) (Nat.le_of_ble_eq_true rfl) rfl ?_
    refine ev_iload_n (pc := 0) dS_lower_0 1 rfl rfl ?_
    refine ev_iconst (pc := 1) (v := 5) dS_lower_1 (by decide) ?_
    refine ev_icmp_lt (pc := 2) (tgt := 11) dS_lower_2 (by decide) hs (fun hs => ?_) (fun hs => ?_)
    · refine ev_iconst (pc := 11) (v := 0) dS_lower_11 (by decide) ?_
      refine ev_istore_n (pc := 12) (L' := [(0, .inr 3), (1, .inl x1), (2, .inl x2), (3, .inl 0)]) dS_lower_12 rfl rfl (Nat.le_of_ble_eq_true rfl) rfl ?_
      exact cS_lower_L13 (fun z0 z1 h p1 hz => ihr h z0 z1 p1 hz) _ _ _ hs
    · refine ev_aload_n (pc := 5) dS_lower_5 0 rfl rfl ?_
      refine ev_iload_n (pc := 6) dS_lower_6 2 rfl rfl ?_
      refine ev_putI (pc := 7) dS_lower_7 lS_29 w1_7 rfl rfl hs (fun h7 hs => ?_)
      exact ev_vret rfl dS_lower_10 hs
set_option maxHeartbeats 4000000 in
set_option maxRecDepth 100000 in
theorem cS_spotsWithin_L16 {k53 : Int32 → Hp → RO} {x1 : Int32} {x2 : Int32} {x3 : Int32} {post : Int32 → Hp → Prop} (hk53 : ∀ (y4 : Int32) (h : Hp), Sat post (k53 y4 h) → Ev mS_spotsWithin 0 53 [(0, .inr 3), (1, .inl x1), (4, .inl y4)] [] h post) : ∀ (n : Nat) (x4_16 : Int32) (x5_16 : Int32) (h16 : Hp), Sat post (fS_spotsWithin_L16 k53 x1 x2 x3 n x4_16 x5_16 h16) → Ev mS_spotsWithin 0 16 [(0, .inr 3), (1, .inl x1), (2, .inl x2), (3, .inl x3), (4, .inl x4_16), (5, .inl x5_16)] [] h16 post := by
  intro n
  induction n with
  | zero =>
    intro x4_16 x5_16 h16 hs
    exact False.elim hs
  | succ n ih =>
    intro x4_16 x5_16 h16 hs
    refine ev_iload (pc := 16) dS_spotsWithin_16 5 rfl ?_
    refine ev_aload_n (pc := 18) dS_spotsWithin_18 0 rfl rfl ?_
    refine ev_getI (pc := 19) dS_spotsWithin_19 lS_15 rfl rfl ?_
    refine ev_icmp_ge (pc := 22) (tgt := 53) dS_spotsWithin_22 (by decide) hs (fun hs => ?_) (fun hs => ?_)
    · refine ev_sub [(0, .inr 3), (1, .inl x1), (4, .inl x4_16)] [0, 1, 4] rfl ?_
      exact hk53 _ _ hs
    · refine ev_aload_n (pc := 25) dS_spotsWithin_25 0 rfl rfl ?_
      refine ev_getR (pc := 26) dS_spotsWithin_26 lS_63 rfl rfl ?_
      refine ev_iload_n (pc := 29) dS_spotsWithin_29 3 rfl rfl ?_
      refine ev_iload (pc := 30) dS_spotsWithin_30 5 rfl ?_
      refine ev_iadd (pc := 32) dS_spotsWithin_32 ?_
      refine ev_iald (pc := 33) dS_spotsWithin_33 hs (fun r33 hs => ?_)
      refine ev_iload_n (pc := 34) dS_spotsWithin_34 2 rfl rfl ?_
      refine ev_jn (fun (j : Int32 → Hp → RO) => ∀ (x4_47 : Int32) (h47 : Hp), Sat post (j x4_47 h47) → Ev mS_spotsWithin 0 47 [(0, .inr 3), (1, .inl x1), (2, .inl x2), (3, .inl x3), (4, .inl x4_47), (5, .inl x5_16)] [] h47 post) hs (fun x4_47 h47 hs => ?_) (fun j47 hj47 hs => ?_)
      · refine ev_iinc (pc := 47) (L' := [(0, .inr 3), (1, .inl x1), (2, .inl x2), (3, .inl x3), (4, .inl x4_47), (5, .inl (x5_16 + 1))]) (v := (x5_16 + 1)) dS_spotsWithin_47 5 rfl (congrArg (HAdd.hAdd _) (by decide)) rfl (Nat.le_of_ble_eq_true rfl) rfl ?_
        refine ev_goto (pc := 50) (tgt := 16) dS_spotsWithin_50 (by decide) ?_
        exact ih _ _ _ hs
      refine ev_icmp_gt (pc := 35) (tgt := 47) dS_spotsWithin_35 (by decide) hs (fun hs => ?_) (fun hs => ?_)
      · exact hj47 _ _ hs
      · refine ev_iload (pc := 38) dS_spotsWithin_38 4 rfl ?_
        refine ev_iconst (pc := 40) (v := 1) dS_spotsWithin_40 (by decide) ?_
        refine ev_iload (pc := 41) dS_spotsWithin_41 5 rfl ?_
        refine ev_ishl (pc := 43) dS_spotsWithin_43 ?_
        refine ev_ior (pc := 44) dS_spotsWithin_44 ?_
        refine ev_bnd hs (fun v45 hs => ?_)
        refine ev_istore (pc := 45) (L' := [(0, .inr 3), (1, .inl x1), (2, .inl x2), (3, .inl x3), (4, .inl v45), (5, .inl x5_16)]) dS_spotsWithin_45 rfl (Nat.le_of_ble_eq_true rfl) rfl ?_
        exact hj47 _ _ hs
set_option maxHeartbeats 4000000 in
set_option maxRecDepth 100000 in
theorem cS_spotsWithin {h0 : Hp} {x1 : Int32} {x2 : Int32} {post : Int32 → Hp → Prop} (hs : Sat post (fS_spotsWithin h0 x1 x2)) : Mt mS_spotsWithin 0 [.inr 3, .inl x1, .inl x2] h0 post := by
  refine mt_body (L := [(0, .inr 3), (1, .inl x1), (2, .inl x2)]) (by decide +kernel) (Nat.le_of_ble_eq_true rfl) rfl ?_
  refine ev_iload_n (pc := 0) dS_spotsWithin_0 1 rfl rfl ?_
  refine ev_bipush (pc := 1) (v := 45) dS_spotsWithin_1 (by decide) ?_
  refine ev_imul (pc := 3) dS_spotsWithin_3 ?_
  refine ev_iload_n (pc := 4) dS_spotsWithin_4 1 rfl rfl ?_
  refine ev_bipush (pc := 5) (v := 9) dS_spotsWithin_5 (by decide) ?_
  refine ev_imul (pc := 7) dS_spotsWithin_7 ?_
  refine ev_iadd (pc := 8) dS_spotsWithin_8 ?_
  refine ev_bnd hs (fun v9 hs => ?_)
  refine ev_istore_n (pc := 9) (L' := [(0, .inr 3), (1, .inl x1), (2, .inl x2), (3, .inl v9)]) dS_spotsWithin_9 rfl rfl (Nat.le_of_ble_eq_true rfl) rfl ?_
  refine ev_iconst (pc := 10) (v := 0) dS_spotsWithin_10 (by decide) ?_
  refine ev_istore (pc := 11) (L' := [(0, .inr 3), (1, .inl x1), (2, .inl x2), (3, .inl v9), (4, .inl 0)]) dS_spotsWithin_11 rfl (Nat.le_of_ble_eq_true rfl) rfl ?_
  refine ev_iconst (pc := 13) (v := 0) dS_spotsWithin_13 (by decide) ?_
  refine ev_istore (pc := 14) (L' := [(0, .inr 3), (1, .inl x1), (2, .inl x2), (3, .inl v9), (4, .inl 0), (5, .inl 0)]) dS_spotsWithin_14 rfl (Nat.le_of_ble_eq_true rfl) rfl ?_
  refine cS_spotsWithin_L16 (fun x4_53 h53 hs => ?_) _ _ _ _ hs
  refine ev_iload (pc := 53) dS_spotsWithin_53 2 rfl ?_
  refine ev_aload_n (pc := 55) dS_spotsWithin_55 0 rfl rfl ?_
  refine ev_getR (pc := 56) dS_spotsWithin_56 lS_45 rfl rfl ?_
  refine ev_iload_n (pc := 59) dS_spotsWithin_59 1 rfl rfl ?_
  refine ev_iald (pc := 60) dS_spotsWithin_60 hs (fun r60 hs => ?_)
  refine ev_iand (pc := 61) dS_spotsWithin_61 ?_
  exact ev_iret rfl dS_spotsWithin_62 hs
set_option maxHeartbeats 4000000 in
set_option maxRecDepth 100000 in
theorem cS_ways_L42 {dd : Nat} {rc : Int32 → Int32 → Hp → RO} {x1 : Int32} {x2 : Int32} {x3 : Int32} {x4 : Int32} {post : Int32 → Hp → Prop} (hrc : ∀ (z0 : Int32) (z1 : Int32) (h : Hp) (p1 : Int32 → Hp → Prop), Sat p1 (rc z0 z1 h) → Mt mS_ways (dd + 2) [.inr 3, .inl z0, .inl z1] h p1) : ∀ (n : Nat) (x5_42 : Int32) (x6_42 : Int32) (h42 : Hp), Sat post (fS_ways_L42 rc x1 x2 x3 x4 n x5_42 x6_42 h42) → Ev mS_ways (dd + 1 + 2) 42 [(0, .inr 3), (1, .inl x1), (2, .inl x2), (3, .inl x3), (4, .inl x4), (5, .inl x5_42), (6, .inl x6_42)] [] h42 post := by
  intro n
  induction n with
  | zero =>
    intro x5_42 x6_42 h42 hs
    exact False.elim hs
  | succ n ih =>
    intro x5_42 x6_42 h42 hs
    refine ev_iload (pc := 42) dS_ways_42 6 rfl ?_
    refine ev_aload_n (pc := 44) dS_ways_44 0 rfl rfl ?_
    refine ev_getI (pc := 45) dS_ways_45 lS_15 rfl rfl ?_
    refine ev_icmp_ge (pc := 48) (tgt := 119) dS_ways_48 (by decide) hs (fun hs => ?_) (fun hs => ?_)
    · refine ev_iload (pc := 119) dS_ways_119 5 rfl ?_
      exact ev_iret rfl dS_ways_121 hs
    · refine ev_iload_n (pc := 51) dS_ways_51 3 rfl rfl ?_
      refine ev_iload (pc := 52) dS_ways_52 6 rfl ?_
      refine ev_callS (pc := 54) (As := [.inl x3, .inl x6_42]) (S := []) (d2 := 0) dS_ways_54 (Or.inr vS_178) zX_isIn rfl (Nat.le_of_ble_eq_true rfl) (by omega) rfl rfl (fun p1 hz => cX_isIn hz) hs (fun r54 h54 hs => ?_)
      refine ev_jn (fun (j : Int32 → Hp → RO) => ∀ (x5_113 : Int32) (h113 : Hp), Sat post (j x5_113 h113) → Ev mS_ways (dd + 1 + 2) 113 [(0, .inr 3), (1, .inl x1), (2, .inl x2), (3, .inl x3), (4, .inl x4), (5, .inl x5_113), (6, .inl x6_42)] [] h113 post) hs (fun x5_113 h113 hs => ?_) (fun j113 hj113 hs => ?_)
      · refine ev_iinc (pc := 113) (L' := [(0, .inr 3), (1, .inl x1), (2, .inl x2), (3, .inl x3), (4, .inl x4), (5, .inl x5_113), (6, .inl (x6_42 + 1))]) (v := (x6_42 + 1)) dS_ways_113 6 rfl (congrArg (HAdd.hAdd _) (by decide)) rfl (Nat.le_of_ble_eq_true rfl) rfl ?_
        refine ev_goto (pc := 116) (tgt := 42) dS_ways_116 (by decide) ?_
        exact ih _ _ _ hs
      refine ev_if_eq (pc := 57) (tgt := 113) dS_ways_57 (by decide) hs (fun hs => ?_) (fun hs => ?_)
      · exact hj113 _ _ hs
      · refine ev_aload_n (pc := 60) dS_ways_60 0 rfl rfl ?_
        refine ev_iload_n (pc := 61) dS_ways_61 1 rfl rfl ?_
        refine ev_iload (pc := 62) dS_ways_62 6 rfl ?_
        refine ev_callVv (pc := 64) (As := [.inl x1, .inl x6_42]) (S := []) (d2 := 1) dS_ways_64 vS_185 zS_lay rfl rfl rfl rfl (Nat.le_of_ble_eq_true rfl) (by omega) rfl rfl (fun p1 hz => cS_lay hz) hs (fun r64 h64 hs => ?_)
        refine ev_aload_n (pc := 67) dS_ways_67 0 rfl rfl ?_
        refine ev_iload (pc := 68) dS_ways_68 4 rfl ?_
        refine ev_iload_n (pc := 70) dS_ways_70 2 rfl rfl ?_
        refine ev_aload_n (pc := 71) dS_ways_71 0 rfl rfl ?_
        refine ev_iload_n (pc := 72) dS_ways_72 1 rfl rfl ?_
        refine ev_iload (pc := 73) dS_ways_73 6 rfl ?_
        refine ev_callV (pc := 75) (As := [.inl x1, .inl x6_42]) (S := [.inl x2, .inl x4, .inr 3]) (d2 := 0) dS_ways_75 vS_182 zS_loadOf rfl rfl rfl rfl (Nat.le_of_ble_eq_true rfl) (by omega) rfl rfl (fun p1 hz => cS_loadOf hz) hs (fun r75 h75 hs => ?_)
        refine ev_isub (pc := 78) dS_ways_78 ?_
        refine ev_callV (pc := 79) (As := [.inl x4, .inl (x2 - r75)]) (S := []) (d2 := (dd + 2)) dS_ways_79 vS_154 zS_ways rfl rfl rfl rfl (Nat.le_of_ble_eq_true rfl) (by omega) rfl rfl (fun p1 hz => hrc _ _ _ p1 hz) hs (fun r79 h79 hs => ?_)
        refine ev_istore (pc := 82) (L' := [(0, .inr 3), (1, .inl x1), (2, .inl x2), (3, .inl x3), (4, .inl x4), (5, .inl x5_42), (6, .inl x6_42), (7, .inl r79)]) dS_ways_82 rfl (Nat.le_of_ble_eq_true rfl) rfl ?_
        refine ev_aload_n (pc := 84) dS_ways_84 0 rfl rfl ?_
        refine ev_getR (pc := 85) dS_ways_85 lS_48 rfl rfl ?_
        refine ev_iload_n (pc := 88) dS_ways_88 1 rfl rfl ?_
        refine ev_dup2 (pc := 89) dS_ways_89 ?_
        refine ev_iald (pc := 90) dS_ways_90 hs (fun r90 hs => ?_)
        refine ev_iload (pc := 91) dS_ways_91 7 rfl ?_
        refine ev_jn (fun (j : Int32 → Hp → RO) => ∀ (s104 : Int32) (h104 : Hp), Sat post (j s104 h104) → Ev mS_ways (dd + 1 + 2) 104 [(0, .inr 3), (1, .inl x1), (2, .inl x2), (3, .inl x3), (4, .inl x4), (5, .inl x5_42), (6, .inl x6_42), (7, .inl r79)] [.inl s104, .inl r90, .inl x1, .inr 17] h104 post) hs (fun s104 h104 hs => ?_) (fun j104 hj104 hs => ?_)
        · refine ev_ior (pc := 104) dS_ways_104 ?_
          refine ev_iast (pc := 105) dS_ways_105 hs (fun h105 hs => ?_)
          refine ev_iload (pc := 106) dS_ways_106 5 rfl ?_
          refine ev_iload (pc := 108) dS_ways_108 7 rfl ?_
          refine ev_iadd (pc := 110) dS_ways_110 ?_
          refine ev_bnd hs (fun v111 hs => ?_)
          refine ev_istore (pc := 111) (L' := [(0, .inr 3), (1, .inl x1), (2, .inl x2), (3, .inl x3), (4, .inl x4), (5, .inl v111), (6, .inl x6_42), (7, .inl r79)]) dS_ways_111 rfl (Nat.le_of_ble_eq_true rfl) rfl ?_
          refine ev_sub [(0, .inr 3), (1, .inl x1), (2, .inl x2), (3, .inl x3), (4, .inl x4), (5, .inl v111), (6, .inl x6_42)] [0, 1, 2, 3, 4, 5, 6] rfl ?_
          exact hj113 _ _ hs
        refine ev_if_le (pc := 93) (tgt := 103) dS_ways_93 (by decide) hs (fun hs => ?_) (fun hs => ?_)
        · refine ev_iconst (pc := 103) (v := 0) dS_ways_103 (by decide) ?_
          exact hj104 _ _ hs
        · refine ev_iconst (pc := 96) (v := 1) dS_ways_96 (by decide) ?_
          refine ev_iload (pc := 97) dS_ways_97 6 rfl ?_
          refine ev_ishl (pc := 99) dS_ways_99 ?_
          refine ev_goto (pc := 100) (tgt := 104) dS_ways_100 (by decide) ?_
          exact hj104 _ _ hs
set_option maxHeartbeats 4000000 in
set_option maxRecDepth 100000 in
theorem cS_ways : ∀ (n : Nat) (h0 : Hp) (x1 : Int32) (x2 : Int32) (post : Int32 → Hp → Prop), Sat post (fS_ways n x1 x2 h0) → Mt mS_ways (n + 2) [.inr 3, .inl x1, .inl x2] h0 post := by
  intro n
  induction n with
  | zero =>
    intro h0 x1 x2 post hs
    exact False.elim hs
  | succ n ihr =>
    intro h0 x1 x2 post hs
    rw [show n + 1 + 2 = n + 1 + 2 from rfl]
    refine mt_body (L := [(0, .inr 3), (1, .inl x1), (2, .inl x2)]) (by decide +kernel) (Nat.le_of_ble_eq_true rfl) rfl ?_
    refine ev_aload_n (pc := 0) dS_ways_0 0 rfl rfl ?_
    refine ev_iload_n (pc := 1) dS_ways_1 1 rfl rfl ?_
    refine ev_iload_n (pc := 2) dS_ways_2 2 rfl rfl ?_
    refine ev_callV (pc := 3) (As := [.inl x1, .inl x2]) (S := []) (d2 := 0) dS_ways_3 vS_188 zS_spotsWithin rfl rfl rfl rfl (Nat.le_of_ble_eq_true rfl) (by omega) rfl rfl (fun p1 hz => cS_spotsWithin hz) hs (fun r3 h3 hs => ?_)
    refine ev_istore_n (pc := 6) (L' := [(0, .inr 3), (1, .inl x1), (2, .inl x2), (3, .inl r3)]) dS_ways_6 rfl rfl (Nat.le_of_ble_eq_true rfl) rfl ?_
    refine ev_aload_n (pc := 7) dS_ways_7 0 rfl rfl ?_
    refine ev_getR (pc := 8) dS_ways_8 lS_42 rfl rfl ?_
    refine ev_iload_n (pc := 11) dS_ways_11 1 rfl rfl ?_
    refine ev_iald (pc := 12) dS_ways_12 hs (fun r12 hs => ?_)
    refine ev_istore (pc := 13) (L' := [(0, .inr 3), (1, .inl x1), (2, .inl x2), (3, .inl r3), (4, .inl r12)]) dS_ways_13 rfl (Nat.le_of_ble_eq_true rfl) rfl ?_
    refine ev_iload (pc := 15) dS_ways_15 4 rfl ?_
    refine ev_iconst (pc := 17) (v := 5) dS_ways_17 (by decide) ?_
    refine ev_icmp_lt (pc := 18) (tgt := 36) dS_ways_18 (by decide) hs (fun hs => ?_) (fun hs => ?_)
    · refine ev_iconst (pc := 36) (v := 0) dS_ways_36 (by decide) ?_
      refine ev_istore (pc := 37) (L' := [(0, .inr 3), (1, .inl x1), (2, .inl x2), (3, .inl r3), (4, .inl r12), (5, .inl 0)]) dS_ways_37 rfl (Nat.le_of_ble_eq_true rfl) rfl ?_
      refine ev_iconst (pc := 39) (v := 0) dS_ways_39 (by decide) ?_
      refine ev_istore (pc := 40) (L' := [(0, .inr 3), (1, .inl x1), (2, .inl x2), (3, .inl r3), (4, .inl r12), (5, .inl 0), (6, .inl 0)]) dS_ways_40 rfl (Nat.le_of_ble_eq_true rfl) rfl ?_
      exact cS_ways_L42 (fun z0 z1 h p1 hz => ihr h z0 z1 p1 hz) _ _ _ _ hs
    · refine ev_aload_n (pc := 21) dS_ways_21 0 rfl rfl ?_
      refine ev_getR (pc := 22) dS_ways_22 lS_48 rfl rfl ?_
      refine ev_iload_n (pc := 25) dS_ways_25 1 rfl rfl ?_
      refine ev_dup2 (pc := 26) dS_ways_26 ?_
      refine ev_iald (pc := 27) dS_ways_27 hs (fun r27 hs => ?_)
      refine ev_iload_n (pc := 28) dS_ways_28 3 rfl rfl ?_
      refine ev_ior (pc := 29) dS_ways_29 ?_
      refine ev_iast (pc := 30) dS_ways_30 hs (fun h30 hs => ?_)
      refine ev_iload_n (pc := 31) dS_ways_31 3 rfl rfl ?_
      refine ev_callS (pc := 32) (As := [.inl r3]) (S := []) (d2 := 0) dS_ways_32 (Or.inl vS_163) zJ_bitCount rfl (Nat.le_of_ble_eq_true rfl) (by omega) rfl rfl (fun p1 hz => cJ_bitCount hz) hs (fun r32 h32 hs => ?_)
      exact ev_iret rfl dS_ways_35 hs
set_option maxHeartbeats 4000000 in
set_option maxRecDepth 100000 in
theorem cS_searchGroups_L7  {post : Int32 → Hp → Prop}  : ∀ (n : Nat) (x1_7 : Int32) (h7 : Hp), Sat post (fS_searchGroups_L7 n x1_7 h7) → Ev mS_searchGroups 10 7 [(0, .inr 3), (1, .inl x1_7)] [] h7 post := by
  intro n
  induction n with
  | zero =>
    intro x1_7 h7 hs
    exact False.elim hs
  | succ n ih =>
    intro x1_7 h7 hs
    refine ev_iload_n (pc := 7) dS_searchGroups_7 1 rfl rfl ?_
    refine ev_iconst (pc := 8) (v := 5) dS_searchGroups_8 (by decide) ?_
    refine ev_icmp_ge (pc := 9) (tgt := 109) dS_searchGroups_9 (by decide) hs (fun hs => ?_) (fun hs => ?_)
    · exact ev_vret rfl dS_searchGroups_109 hs
    · refine ev_aload_n (pc := 12) dS_searchGroups_12 0 rfl rfl ?_
      refine ev_iload_n (pc := 13) dS_searchGroups_13 1 rfl rfl ?_
      refine ev_callV (pc := 14) (As := [.inl x1_7]) (S := []) (d2 := 0) dS_searchGroups_14 vS_141 zS_leadsGroup rfl rfl rfl rfl (Nat.le_of_ble_eq_true rfl) (Nat.le_of_ble_eq_true rfl) rfl rfl (fun p1 hz => cS_leadsGroup hz) hs (fun r14 h14 hs => ?_)
      refine ev_jn (fun (j : Hp → RO) => ∀  (h103 : Hp), Sat post (j h103) → Ev mS_searchGroups 10 103 [(0, .inr 3), (1, .inl x1_7)] [] h103 post) hs (fun h103 hs => ?_) (fun j103 hj103 hs => ?_)
      · refine ev_iinc (pc := 103) (L' := [(0, .inr 3), (1, .inl (x1_7 + 1))]) (v := (x1_7 + 1)) dS_searchGroups_103 1 rfl (congrArg (HAdd.hAdd _) (by decide)) rfl (Nat.le_of_ble_eq_true rfl) rfl ?_
        refine ev_goto (pc := 106) (tgt := 7) dS_searchGroups_106 (by decide) ?_
        exact ih _ _ hs
      refine ev_if_eq (pc := 17) (tgt := 103) dS_searchGroups_17 (by decide) hs (fun hs => ?_) (fun hs => ?_)
      · exact hj103 _ hs
      · refine ev_aload_n (pc := 20) dS_searchGroups_20 0 rfl rfl ?_
        refine ev_getR (pc := 21) dS_searchGroups_21 lS_63 rfl rfl ?_
        refine ev_iload_n (pc := 24) dS_searchGroups_24 1 rfl rfl ?_
        refine ev_bipush (pc := 25) (v := 45) dS_searchGroups_25 (by decide) ?_
        refine ev_imul (pc := 27) dS_searchGroups_27 ?_
        refine ev_iload_n (pc := 28) dS_searchGroups_28 1 rfl rfl ?_
        refine ev_iconst (pc := 29) (v := 1) dS_searchGroups_29 (by decide) ?_
        refine ev_iadd (pc := 30) dS_searchGroups_30 ?_
        refine ev_bipush (pc := 31) (v := 45) dS_searchGroups_31 (by decide) ?_
        refine ev_imul (pc := 33) dS_searchGroups_33 ?_
        refine ev_iconst (pc := 34) (v := 0) dS_searchGroups_34 (by decide) ?_
        refine ev_callSv (pc := 35) (As := [.inr 22, .inl (x1_7 * 45), .inl ((x1_7 + 1) * 45), .inl 0]) (S := []) (d2 := 1) dS_searchGroups_35 (Or.inl vS_144) zJ_fill4 rfl (Nat.le_of_ble_eq_true rfl) (Nat.le_of_ble_eq_true rfl) rfl rfl (fun p1 hz => cJ_fill4 hz) hs (fun r35 h35 hs => ?_)
        refine ev_aload_n (pc := 38) dS_searchGroups_38 0 rfl rfl ?_
        refine ev_ldc (pc := 39) (v := 1000000) dS_searchGroups_39 kS_150 ?_
        refine ev_putI (pc := 41) dS_searchGroups_41 lS_29 w1_7 rfl rfl hs (fun h41 hs => ?_)
        refine ev_aload_n (pc := 44) dS_searchGroups_44 0 rfl rfl ?_
        refine ev_iload_n (pc := 45) dS_searchGroups_45 1 rfl rfl ?_
        refine ev_iconst (pc := 46) (v := 0) dS_searchGroups_46 (by decide) ?_
        refine ev_callVv (pc := 47) (As := [.inl x1_7, .inl 0]) (S := []) (d2 := 9) dS_searchGroups_47 vS_151 zS_lower rfl rfl rfl rfl (Nat.le_of_ble_eq_true rfl) (Nat.le_of_ble_eq_true rfl) rfl rfl (fun p1 hz => cS_lower 7 _ _ _ p1 hz) hs (fun r47 h47 hs => ?_)
        refine ev_aload_n (pc := 50) dS_searchGroups_50 0 rfl rfl ?_
        refine ev_getR (pc := 51) dS_searchGroups_51 lS_51 rfl rfl ?_
        refine ev_iload_n (pc := 54) dS_searchGroups_54 1 rfl rfl ?_
        refine ev_aload_n (pc := 55) dS_searchGroups_55 0 rfl rfl ?_
        refine ev_getI (pc := 56) dS_searchGroups_56 lS_29 rfl rfl ?_
        refine ev_iast (pc := 59) dS_searchGroups_59 hs (fun h59 hs => ?_)
        refine ev_aload_n (pc := 60) dS_searchGroups_60 0 rfl rfl ?_
        refine ev_getR (pc := 61) dS_searchGroups_61 lS_54 rfl rfl ?_
        refine ev_iload_n (pc := 64) dS_searchGroups_64 1 rfl rfl ?_
        refine ev_aload_n (pc := 65) dS_searchGroups_65 0 rfl rfl ?_
        refine ev_iload_n (pc := 66) dS_searchGroups_66 1 rfl rfl ?_
        refine ev_aload_n (pc := 67) dS_searchGroups_67 0 rfl rfl ?_
        refine ev_getI (pc := 68) dS_searchGroups_68 lS_29 rfl rfl ?_
        refine ev_callV (pc := 71) (As := [.inl x1_7, .inl (h59 3 7)]) (S := [.inl x1_7, .inr 19]) (d2 := 9) dS_searchGroups_71 vS_154 zS_ways rfl rfl rfl rfl (Nat.le_of_ble_eq_true rfl) (Nat.le_of_ble_eq_true rfl) rfl rfl (fun p1 hz => cS_ways 7 _ _ _ p1 hz) hs (fun r71 h71 hs => ?_)
        refine ev_iast (pc := 74) dS_searchGroups_74 hs (fun h74 hs => ?_)
        refine ev_aload_n (pc := 75) dS_searchGroups_75 0 rfl rfl ?_
        refine ev_dup (pc := 76) dS_searchGroups_76 ?_
        refine ev_getI (pc := 77) dS_searchGroups_77 lS_22 rfl rfl ?_
        refine ev_aload_n (pc := 80) dS_searchGroups_80 0 rfl rfl ?_
        refine ev_getI (pc := 81) dS_searchGroups_81 lS_29 rfl rfl ?_
        refine ev_iadd (pc := 84) dS_searchGroups_84 ?_
        refine ev_putI (pc := 85) dS_searchGroups_85 lS_22 w1_5 rfl rfl hs (fun h85 hs => ?_)
        refine ev_aload_n (pc := 88) dS_searchGroups_88 0 rfl rfl ?_
        refine ev_dup (pc := 89) dS_searchGroups_89 ?_
        refine ev_getI (pc := 90) dS_searchGroups_90 lS_19 rfl rfl ?_
        refine ev_aload_n (pc := 93) dS_searchGroups_93 0 rfl rfl ?_
        refine ev_getR (pc := 94) dS_searchGroups_94 lS_54 rfl rfl ?_
        refine ev_iload_n (pc := 97) dS_searchGroups_97 1 rfl rfl ?_
        refine ev_iald (pc := 98) dS_searchGroups_98 hs (fun r98 hs => ?_)
        refine ev_imul (pc := 99) dS_searchGroups_99 ?_
        refine ev_putI (pc := 100) dS_searchGroups_100 lS_19 w1_4 rfl rfl hs (fun h100 hs => ?_)
        exact hj103 _ hs
set_option maxHeartbeats 4000000 in
set_option maxRecDepth 100000 in
theorem cS_searchGroups {h0 : Hp}  {post : Int32 → Hp → Prop} (hs : Sat post (fS_searchGroups h0 )) : Mt mS_searchGroups 10 [.inr 3] h0 post := by
  refine mt_body (L := [(0, .inr 3)]) (by decide +kernel) (Nat.le_of_ble_eq_true rfl) rfl ?_
  refine ev_aload_n (pc := 0) dS_searchGroups_0 0 rfl rfl ?_
  refine ev_iconst (pc := 1) (v := 1) dS_searchGroups_1 (by decide) ?_
  refine ev_putI (pc := 2) dS_searchGroups_2 lS_19 w1_4 rfl rfl hs (fun h2 hs => ?_)
  refine ev_iconst (pc := 5) (v := 0) dS_searchGroups_5 (by decide) ?_
  refine ev_istore_n (pc := 6) (L' := [(0, .inr 3), (1, .inl 0)]) dS_searchGroups_6 rfl rfl (Nat.le_of_ble_eq_true rfl) rfl ?_
  exact cS_searchGroups_L7  _ _ _ hs
set_option maxHeartbeats 4000000 in
set_option maxRecDepth 100000 in
theorem cS_placesOf {h0 : Hp} {x1 : Int32} {post : Int32 → Hp → Prop} (hs : Sat post (fS_placesOf h0 x1)) : Mt mS_placesOf 2 [.inr 3, .inl x1] h0 post := by
  refine mt_body (L := [(0, .inr 3), (1, .inl x1)]) (by decide +kernel) (Nat.le_of_ble_eq_true rfl) rfl ?_
  refine ev_aload_n (pc := 0) dS_placesOf_0 0 rfl rfl ?_
  refine ev_getR (pc := 1) dS_placesOf_1 lS_48 rfl rfl ?_
  refine ev_aload_n (pc := 4) dS_placesOf_4 0 rfl rfl ?_
  refine ev_getR (pc := 5) dS_placesOf_5 lS_66 rfl rfl ?_
  refine ev_iload_n (pc := 8) dS_placesOf_8 1 rfl rfl ?_
  refine ev_iconst (pc := 9) (v := 0) dS_placesOf_9 (by decide) ?_
  refine ev_callV (pc := 10) (As := [.inl x1, .inl 0]) (S := [.inr 17]) (d2 := 0) dS_placesOf_10 vS_97 zT_copyFact rfl rfl rfl rfl (Nat.le_of_ble_eq_true rfl) (Nat.le_of_ble_eq_true rfl) rfl rfl (fun p1 hz => cT_copyFact hz) hs (fun r10 h10 hs => ?_)
  refine ev_iald (pc := 13) dS_placesOf_13 hs (fun r13 hs => ?_)
  refine ev_aload_n (pc := 14) dS_placesOf_14 0 rfl rfl ?_
  refine ev_getR (pc := 15) dS_placesOf_15 lS_66 rfl rfl ?_
  refine ev_iload_n (pc := 18) dS_placesOf_18 1 rfl rfl ?_
  refine ev_callV (pc := 19) (As := [.inl x1]) (S := [.inl r13]) (d2 := 1) dS_placesOf_19 vS_101 zT_offsetOf rfl rfl rfl rfl (Nat.le_of_ble_eq_true rfl) (Nat.le_of_ble_eq_true rfl) rfl rfl (fun p1 hz => cT_offsetOf hz) hs (fun r19 h19 hs => ?_)
  refine ev_ishl (pc := 22) dS_placesOf_22 ?_
  exact ev_iret rfl dS_placesOf_23 hs
set_option maxHeartbeats 4000000 in
set_option maxRecDepth 100000 in
theorem cS_findSurePlaces_L2  {post : Int32 → Hp → Prop}  : ∀ (n : Nat) (x1_2 : Int32) (h2 : Hp), Sat post (fS_findSurePlaces_L2 n x1_2 h2) → Ev mS_findSurePlaces 3 2 [(0, .inr 3), (1, .inl x1_2)] [] h2 post := by
  intro n
  induction n with
  | zero =>
    intro x1_2 h2 hs
    exact False.elim hs
  | succ n ih =>
    intro x1_2 h2 hs
    refine ev_iload_n (pc := 2) dS_findSurePlaces_2 1 rfl rfl ?_
    refine ev_aload_n (pc := 3) dS_findSurePlaces_3 0 rfl rfl ?_
    refine ev_getR (pc := 4) dS_findSurePlaces_4 lS_66 rfl rfl ?_
    refine ev_getI (pc := 7) dS_findSurePlaces_7 lS_157 rfl rfl ?_
    refine ev_icmp_ge (pc := 10) (tgt := 47) dS_findSurePlaces_10 (by decide) hs (fun hs => ?_) (fun hs => ?_)
    · exact ev_vret rfl dS_findSurePlaces_47 hs
    · refine ev_aload_n (pc := 13) dS_findSurePlaces_13 0 rfl rfl ?_
      refine ev_iload_n (pc := 14) dS_findSurePlaces_14 1 rfl rfl ?_
      refine ev_callV (pc := 15) (As := [.inl x1_2]) (S := []) (d2 := 2) dS_findSurePlaces_15 vS_160 zS_placesOf rfl rfl rfl rfl (Nat.le_of_ble_eq_true rfl) (Nat.le_of_ble_eq_true rfl) rfl rfl (fun p1 hz => cS_placesOf hz) hs (fun r15 h15 hs => ?_)
      refine ev_istore_n (pc := 18) (L' := [(0, .inr 3), (1, .inl x1_2), (2, .inl r15)]) dS_findSurePlaces_18 rfl rfl (Nat.le_of_ble_eq_true rfl) rfl ?_
      refine ev_aload_n (pc := 19) dS_findSurePlaces_19 0 rfl rfl ?_
      refine ev_getR (pc := 20) dS_findSurePlaces_20 lS_25 rfl rfl ?_
      refine ev_iload_n (pc := 23) dS_findSurePlaces_23 1 rfl rfl ?_
      refine ev_iload_n (pc := 24) dS_findSurePlaces_24 2 rfl rfl ?_
      refine ev_callS (pc := 25) (As := [.inl r15]) (S := [.inl x1_2, .inr 12]) (d2 := 0) dS_findSurePlaces_25 (Or.inl vS_163) zJ_bitCount rfl (Nat.le_of_ble_eq_true rfl) (Nat.le_of_ble_eq_true rfl) rfl rfl (fun p1 hz => cJ_bitCount hz) hs (fun r25 h25 hs => ?_)
      refine ev_iconst (pc := 28) (v := 1) dS_findSurePlaces_28 (by decide) ?_
      refine ev_jn (fun (j : Int32 → Hp → RO) => ∀ (s40 : Int32) (h40 : Hp), Sat post (j s40 h40) → Ev mS_findSurePlaces 3 40 [(0, .inr 3), (1, .inl x1_2)] [.inl s40, .inl x1_2, .inr 12] h40 post) hs (fun s40 h40 hs => ?_) (fun j40 hj40 hs => ?_)
      · refine ev_iast (pc := 40) dS_findSurePlaces_40 hs (fun h40 hs => ?_)
        refine ev_iinc (pc := 41) (L' := [(0, .inr 3), (1, .inl (x1_2 + 1))]) (v := (x1_2 + 1)) dS_findSurePlaces_41 1 rfl (congrArg (HAdd.hAdd _) (by decide)) rfl (Nat.le_of_ble_eq_true rfl) rfl ?_
        refine ev_goto (pc := 44) (tgt := 2) dS_findSurePlaces_44 (by decide) ?_
        exact ih _ _ hs
      refine ev_icmp_ne (pc := 29) (tgt := 39) dS_findSurePlaces_29 (by decide) hs (fun hs => ?_) (fun hs => ?_)
      · refine ev_iconst (pc := 39) (v := (-1)) dS_findSurePlaces_39 (by decide) ?_
        refine ev_sub [(0, .inr 3), (1, .inl x1_2)] [0, 1] rfl ?_
        exact hj40 _ _ hs
      · refine ev_iload_n (pc := 32) dS_findSurePlaces_32 2 rfl rfl ?_
        refine ev_callS (pc := 33) (As := [.inl r15]) (S := [.inl x1_2, .inr 12]) (d2 := 0) dS_findSurePlaces_33 (Or.inl vS_168) zJ_numberOfTrailingZeros rfl (Nat.le_of_ble_eq_true rfl) (Nat.le_of_ble_eq_true rfl) rfl rfl (fun p1 hz => cJ_numberOfTrailingZeros hz) hs (fun r33 h33 hs => ?_)
        refine ev_goto (pc := 36) (tgt := 40) dS_findSurePlaces_36 (by decide) ?_
        refine ev_sub [(0, .inr 3), (1, .inl x1_2)] [0, 1] rfl ?_
        exact hj40 _ _ hs
set_option maxHeartbeats 4000000 in
set_option maxRecDepth 100000 in
theorem cS_findSurePlaces {h0 : Hp}  {post : Int32 → Hp → Prop} (hs : Sat post (fS_findSurePlaces h0 )) : Mt mS_findSurePlaces 3 [.inr 3] h0 post := by
  refine mt_body (L := [(0, .inr 3)]) (by decide +kernel) (Nat.le_of_ble_eq_true rfl) rfl ?_
  refine ev_iconst (pc := 0) (v := 0) dS_findSurePlaces_0 (by decide) ?_
  refine ev_istore_n (pc := 1) (L' := [(0, .inr 3), (1, .inl 0)]) dS_findSurePlaces_1 rfl rfl (Nat.le_of_ble_eq_true rfl) rfl ?_
  exact cS_findSurePlaces_L2  _ _ _ hs
set_option maxHeartbeats 4000000 in
set_option maxRecDepth 100000 in
theorem cS_settle {h0 : Hp}  {post : Int32 → Hp → Prop} (hs : Sat post (fS_settle h0 )) : Mt mS_settle 11 [.inr 3] h0 post := by
  refine mt_body (L := [(0, .inr 3)]) (by decide +kernel) (Nat.le_of_ble_eq_true rfl) rfl ?_
  refine ev_aload_n (pc := 0) dS_settle_0 0 rfl rfl ?_
  refine ev_getI (pc := 1) dS_settle_1 lS_9 rfl rfl ?_
  refine ev_if_ne (pc := 4) (tgt := 8) dS_settle_4 (by decide) hs (fun hs => ?_) (fun hs => ?_)
  · refine ev_aload_n (pc := 8) dS_settle_8 0 rfl rfl ?_
    refine ev_iconst (pc := 9) (v := 0) dS_settle_9 (by decide) ?_
    refine ev_putZ (pc := 10) dS_settle_10 lS_9 w1_2 rfl rfl hs (fun h10 hs => ?_)
    refine ev_aload_n (pc := 13) dS_settle_13 0 rfl rfl ?_
    refine ev_iconst (pc := 14) (v := (-1)) dS_settle_14 (by decide) ?_
    refine ev_putI (pc := 15) dS_settle_15 lS_32 w1_8 rfl rfl hs (fun h15 hs => ?_)
    refine ev_aload_n (pc := 18) dS_settle_18 0 rfl rfl ?_
    refine ev_aload_n (pc := 19) dS_settle_19 0 rfl rfl ?_
    refine ev_getR (pc := 20) dS_settle_20 lS_66 rfl rfl ?_
    refine ev_callV (pc := 23) (As := []) (S := [.inr 3]) (d2 := 0) dS_settle_23 vS_79 zT_places rfl rfl rfl rfl (Nat.le_of_ble_eq_true rfl) (Nat.le_of_ble_eq_true rfl) rfl rfl (fun p1 hz => cT_places hz) hs (fun r23 h23 hs => ?_)
    refine ev_putI (pc := 26) dS_settle_26 lS_15 w1_3 rfl rfl hs (fun h26 hs => ?_)
    refine ev_aload_n (pc := 29) dS_settle_29 0 rfl rfl ?_
    refine ev_iconst (pc := 30) (v := 0) dS_settle_30 (by decide) ?_
    refine ev_putI (pc := 31) dS_settle_31 lS_22 w1_5 rfl rfl hs (fun h31 hs => ?_)
    refine ev_aload_n (pc := 34) dS_settle_34 0 rfl rfl ?_
    refine ev_iconst (pc := 35) (v := 0) dS_settle_35 (by decide) ?_
    refine ev_putI (pc := 36) dS_settle_36 lS_19 w1_4 rfl rfl hs (fun h36 hs => ?_)
    refine ev_aload_n (pc := 39) dS_settle_39 0 rfl rfl ?_
    refine ev_callV (pc := 40) (As := []) (S := []) (d2 := 3) dS_settle_40 vS_84 zS_openSpots rfl rfl rfl rfl (Nat.le_of_ble_eq_true rfl) (Nat.le_of_ble_eq_true rfl) rfl rfl (fun p1 hz => cS_openSpots hz) hs (fun r40 h40 hs => ?_)
    refine ev_jn (fun (j : Hp → RO) => ∀  (h54 : Hp), Sat post (j h54) → Ev mS_settle 11 54 [(0, .inr 3)] [] h54 post) hs (fun h54 hs => ?_) (fun j54 hj54 hs => ?_)
    · refine ev_aload_n (pc := 54) dS_settle_54 0 rfl rfl ?_
      refine ev_callVv (pc := 55) (As := []) (S := []) (d2 := 3) dS_settle_55 vS_94 zS_findSurePlaces rfl rfl rfl rfl (Nat.le_of_ble_eq_true rfl) (Nat.le_of_ble_eq_true rfl) rfl rfl (fun p1 hz => cS_findSurePlaces hz) hs (fun r55 h55 hs => ?_)
      exact ev_vret rfl dS_settle_58 hs
    refine ev_if_eq (pc := 43) (tgt := 54) dS_settle_43 (by decide) hs (fun hs => ?_) (fun hs => ?_)
    · exact hj54 _ hs
    · refine ev_aload_n (pc := 46) dS_settle_46 0 rfl rfl ?_
      refine ev_callVv (pc := 47) (As := []) (S := []) (d2 := 3) dS_settle_47 vS_88 zS_formGroups rfl rfl rfl rfl (Nat.le_of_ble_eq_true rfl) (Nat.le_of_ble_eq_true rfl) rfl rfl (fun p1 hz => cS_formGroups hz) hs (fun r47 h47 hs => ?_)
      refine ev_aload_n (pc := 50) dS_settle_50 0 rfl rfl ?_
      refine ev_callVv (pc := 51) (As := []) (S := []) (d2 := 10) dS_settle_51 vS_91 zS_searchGroups rfl rfl rfl rfl (Nat.le_of_ble_eq_true rfl) (Nat.le_of_ble_eq_true rfl) rfl rfl (fun p1 hz => cS_searchGroups hz) hs (fun r51 h51 hs => ?_)
      exact hj54 _ hs
  · exact ev_vret rfl dS_settle_7 hs
set_option maxHeartbeats 4000000 in
set_option maxRecDepth 100000 in
theorem cS_waysOfOthers_L4 {x1 : Int32} {post : Int32 → Hp → Prop}  : ∀ (n : Nat) (x2_4 : Int32) (x3_4 : Int32) (h4 : Hp), Sat post (fS_waysOfOthers_L4 x1 n x2_4 x3_4 h4) → Ev mS_waysOfOthers 1 4 [(0, .inr 3), (1, .inl x1), (2, .inl x2_4), (3, .inl x3_4)] [] h4 post := by
  intro n
  induction n with
  | zero =>
    intro x2_4 x3_4 h4 hs
    exact False.elim hs
  | succ n ih =>
    intro x2_4 x3_4 h4 hs
    refine ev_iload_n (pc := 4) dS_waysOfOthers_4 3 rfl rfl ?_
    refine ev_iconst (pc := 5) (v := 5) dS_waysOfOthers_5 (by decide) ?_
    refine ev_icmp_ge (pc := 6) (tgt := 37) dS_waysOfOthers_6 (by decide) hs (fun hs => ?_) (fun hs => ?_)
    · refine ev_iload_n (pc := 37) dS_waysOfOthers_37 2 rfl rfl ?_
      exact ev_iret rfl dS_waysOfOthers_38 hs
    · refine ev_aload_n (pc := 9) dS_waysOfOthers_9 0 rfl rfl ?_
      refine ev_iload_n (pc := 10) dS_waysOfOthers_10 3 rfl rfl ?_
      refine ev_callV (pc := 11) (As := [.inl x3_4]) (S := []) (d2 := 0) dS_waysOfOthers_11 vS_141 zS_leadsGroup rfl rfl rfl rfl (Nat.le_of_ble_eq_true rfl) (Nat.le_of_ble_eq_true rfl) rfl rfl (fun p1 hz => cS_leadsGroup hz) hs (fun r11 h11 hs => ?_)
      refine ev_jn (fun (j : Int32 → Hp → RO) => ∀ (x2_31 : Int32) (h31 : Hp), Sat post (j x2_31 h31) → Ev mS_waysOfOthers 1 31 [(0, .inr 3), (1, .inl x1), (2, .inl x2_31), (3, .inl x3_4)] [] h31 post) hs (fun x2_31 h31 hs => ?_) (fun j31 hj31 hs => ?_)
      · refine ev_iinc (pc := 31) (L' := [(0, .inr 3), (1, .inl x1), (2, .inl x2_31), (3, .inl (x3_4 + 1))]) (v := (x3_4 + 1)) dS_waysOfOthers_31 3 rfl (congrArg (HAdd.hAdd _) (by decide)) rfl (Nat.le_of_ble_eq_true rfl) rfl ?_
        refine ev_goto (pc := 34) (tgt := 4) dS_waysOfOthers_34 (by decide) ?_
        exact ih _ _ _ hs
      refine ev_if_eq (pc := 14) (tgt := 31) dS_waysOfOthers_14 (by decide) hs (fun hs => ?_) (fun hs => ?_)
      · exact hj31 _ _ hs
      · refine ev_iload_n (pc := 17) dS_waysOfOthers_17 3 rfl rfl ?_
        refine ev_iload_n (pc := 18) dS_waysOfOthers_18 1 rfl rfl ?_
        refine ev_icmp_eq (pc := 19) (tgt := 31) dS_waysOfOthers_19 (by decide) hs (fun hs => ?_) (fun hs => ?_)
        · exact hj31 _ _ hs
        · refine ev_iload_n (pc := 22) dS_waysOfOthers_22 2 rfl rfl ?_
          refine ev_aload_n (pc := 23) dS_waysOfOthers_23 0 rfl rfl ?_
          refine ev_getR (pc := 24) dS_waysOfOthers_24 lS_57 rfl rfl ?_
          refine ev_iload_n (pc := 27) dS_waysOfOthers_27 3 rfl rfl ?_
          refine ev_iald (pc := 28) dS_waysOfOthers_28 hs (fun r28 hs => ?_)
          refine ev_imul (pc := 29) dS_waysOfOthers_29 ?_
          refine ev_bnd hs (fun v30 hs => ?_)
          refine ev_istore_n (pc := 30) (L' := [(0, .inr 3), (1, .inl x1), (2, .inl v30), (3, .inl x3_4)]) dS_waysOfOthers_30 rfl rfl (Nat.le_of_ble_eq_true rfl) rfl ?_
          exact hj31 _ _ hs
set_option maxHeartbeats 4000000 in
set_option maxRecDepth 100000 in
theorem cS_waysOfOthers {h0 : Hp} {x1 : Int32} {post : Int32 → Hp → Prop} (hs : Sat post (fS_waysOfOthers h0 x1)) : Mt mS_waysOfOthers 1 [.inr 3, .inl x1] h0 post := by
  refine mt_body (L := [(0, .inr 3), (1, .inl x1)]) (by decide +kernel) (Nat.le_of_ble_eq_true rfl) rfl ?_
  refine ev_iconst (pc := 0) (v := 1) dS_waysOfOthers_0 (by decide) ?_
  refine ev_istore_n (pc := 1) (L' := [(0, .inr 3), (1, .inl x1), (2, .inl 1)]) dS_waysOfOthers_1 rfl rfl (Nat.le_of_ble_eq_true rfl) rfl ?_
  refine ev_iconst (pc := 2) (v := 0) dS_waysOfOthers_2 (by decide) ?_
  refine ev_istore_n (pc := 3) (L' := [(0, .inr 3), (1, .inl x1), (2, .inl 1), (3, .inl 0)]) dS_waysOfOthers_3 rfl rfl (Nat.le_of_ble_eq_true rfl) rfl ?_
  exact cS_waysOfOthers_L4  _ _ _ _ hs
set_option maxHeartbeats 4000000 in
set_option maxRecDepth 100000 in
theorem cS_pickSpot_L20 {k76 : Int32 → Int32 → Int32 → Hp → RO} {x1 : Int32} {x3 : Int32} {x4 : Int32} {post : Int32 → Hp → Prop} (hk76 : ∀ (y5 : Int32) (y6 : Int32) (y7 : Int32) (h : Hp), Sat post (k76 y5 y6 y7 h) → Ev mS_pickSpot 10 76 [(0, .inr 3), (1, .inl x1), (3, .inl x3), (5, .inl y5), (6, .inl y6), (7, .inl y7)] [] h post) : ∀ (n : Nat) (x5_20 : Int32) (x6_20 : Int32) (h20 : Hp), Sat post (fS_pickSpot_L20 k76 x1 x3 x4 n x5_20 x6_20 h20) → Ev mS_pickSpot 10 20 [(0, .inr 3), (1, .inl x1), (3, .inl x3), (4, .inl x4), (5, .inl x5_20), (6, .inl x6_20)] [] h20 post := by
  intro n
  induction n with
  | zero =>
    intro x5_20 x6_20 h20 hs
    exact False.elim hs
  | succ n ih =>
    intro x5_20 x6_20 h20 hs
    refine ev_iload (pc := 20) dS_pickSpot_20 5 rfl ?_
    refine ev_aload_n (pc := 22) dS_pickSpot_22 0 rfl rfl ?_
    refine ev_getI (pc := 23) dS_pickSpot_23 lS_15 rfl rfl ?_
    refine ev_icmp_ge (pc := 26) (tgt := 111) dS_pickSpot_26 (by decide) hs (fun hs => ?_) (fun hs => ?_)
    · refine ev_iload (pc := 111) dS_pickSpot_111 4 rfl ?_
      exact ev_iret rfl dS_pickSpot_113 hs
    · refine ev_aload_n (pc := 29) dS_pickSpot_29 0 rfl rfl ?_
      refine ev_getR (pc := 30) dS_pickSpot_30 lS_48 rfl rfl ?_
      refine ev_iload_n (pc := 33) dS_pickSpot_33 1 rfl rfl ?_
      refine ev_iald (pc := 34) dS_pickSpot_34 hs (fun r34 hs => ?_)
      refine ev_iload (pc := 35) dS_pickSpot_35 5 rfl ?_
      refine ev_callS (pc := 37) (As := [.inl r34, .inl x6_20]) (S := []) (d2 := 0) dS_pickSpot_37 (Or.inr vS_178) zX_isIn rfl (Nat.le_of_ble_eq_true rfl) (Nat.le_of_ble_eq_true rfl) rfl rfl (fun p1 hz => cX_isIn hz) hs (fun r37 h37 hs => ?_)
      refine ev_jn (fun (j : Int32 → Hp → RO) => ∀ (x5_105 : Int32) (h105 : Hp), Sat post (j x5_105 h105) → Ev mS_pickSpot 10 105 [(0, .inr 3), (1, .inl x1), (3, .inl x3), (4, .inl x4), (5, .inl x5_105), (6, .inl x6_20)] [] h105 post) hs (fun x5_105 h105 hs => ?_) (fun j105 hj105 hs => ?_)
      · refine ev_iinc (pc := 105) (L' := [(0, .inr 3), (1, .inl x1), (3, .inl x3), (4, .inl x4), (5, .inl x5_105), (6, .inl (x6_20 + 1))]) (v := (x6_20 + 1)) dS_pickSpot_105 5 rfl (congrArg (HAdd.hAdd _) (by decide)) rfl (Nat.le_of_ble_eq_true rfl) rfl ?_
        refine ev_goto (pc := 108) (tgt := 20) dS_pickSpot_108 (by decide) ?_
        exact ih _ _ _ hs
      refine ev_if_eq (pc := 40) (tgt := 105) dS_pickSpot_40 (by decide) hs (fun hs => ?_) (fun hs => ?_)
      · exact hj105 _ _ hs
      · refine ev_aload_n (pc := 43) dS_pickSpot_43 0 rfl rfl ?_
        refine ev_getR (pc := 44) dS_pickSpot_44 lS_45 rfl rfl ?_
        refine ev_iload_n (pc := 47) dS_pickSpot_47 1 rfl rfl ?_
        refine ev_iconst (pc := 48) (v := 1) dS_pickSpot_48 (by decide) ?_
        refine ev_iload (pc := 49) dS_pickSpot_49 5 rfl ?_
        refine ev_ishl (pc := 51) dS_pickSpot_51 ?_
        refine ev_iast (pc := 52) dS_pickSpot_52 hs (fun h52 hs => ?_)
        refine ev_aload_n (pc := 53) dS_pickSpot_53 0 rfl rfl ?_
        refine ev_iload_n (pc := 54) dS_pickSpot_54 2 rfl rfl ?_
        refine ev_aload_n (pc := 55) dS_pickSpot_55 0 rfl rfl ?_
        refine ev_getR (pc := 56) dS_pickSpot_56 lS_51 rfl rfl ?_
        refine ev_iload_n (pc := 59) dS_pickSpot_59 2 rfl rfl ?_
        refine ev_iald (pc := 60) dS_pickSpot_60 hs (fun r60 hs => ?_)
        refine ev_callV (pc := 61) (As := [.inl x3, .inl r60]) (S := []) (d2 := 9) dS_pickSpot_61 vS_154 zS_ways rfl rfl rfl rfl (Nat.le_of_ble_eq_true rfl) (Nat.le_of_ble_eq_true rfl) rfl rfl (fun p1 hz => cS_ways 7 _ _ _ p1 hz) hs (fun r61 h61 hs => ?_)
        refine ev_istore (pc := 64) (L' := [(0, .inr 3), (1, .inl x1), (3, .inl x3), (4, .inl x4), (5, .inl x5_20), (6, .inl x6_20), (7, .inl r61)]) dS_pickSpot_64 rfl (Nat.le_of_ble_eq_true rfl) rfl ?_
        refine ev_iload (pc := 66) dS_pickSpot_66 4 rfl ?_
        refine ev_iload (pc := 68) dS_pickSpot_68 6 rfl ?_
        refine ev_iload (pc := 70) dS_pickSpot_70 3 rfl ?_
        refine ev_imul (pc := 72) dS_pickSpot_72 ?_
        refine ev_icmp_ge (pc := 73) (tgt := 95) dS_pickSpot_73 (by decide) hs (fun hs => ?_) (fun hs => ?_)
        · refine ev_iload (pc := 95) dS_pickSpot_95 4 rfl ?_
          refine ev_iload (pc := 97) dS_pickSpot_97 6 rfl ?_
          refine ev_iload (pc := 99) dS_pickSpot_99 3 rfl ?_
          refine ev_imul (pc := 101) dS_pickSpot_101 ?_
          refine ev_isub (pc := 102) dS_pickSpot_102 ?_
          refine ev_bnd hs (fun v103 hs => ?_)
          refine ev_istore (pc := 103) (L' := [(0, .inr 3), (1, .inl x1), (3, .inl x3), (4, .inl x4), (5, .inl v103), (6, .inl x6_20), (7, .inl r61)]) dS_pickSpot_103 rfl (Nat.le_of_ble_eq_true rfl) rfl ?_
          refine ev_sub [(0, .inr 3), (1, .inl x1), (3, .inl x3), (4, .inl x4), (5, .inl v103), (6, .inl x6_20)] [0, 1, 2, 3, 4, 5] rfl ?_
          exact hj105 _ _ hs
        · refine ev_sub [(0, .inr 3), (1, .inl x1), (3, .inl x3), (5, .inl x5_20), (6, .inl x6_20), (7, .inl r61)] [0, 1, 2, 4, 5, 6] rfl ?_
          exact hk76 _ _ _ _ hs
set_option maxHeartbeats 4000000 in
set_option maxRecDepth 100000 in
theorem cS_pickSpot {h0 : Hp} {x1 : Int32} {x2 : Int32} {post : Int32 → Hp → Prop} (hs : Sat post (fS_pickSpot h0 x1 x2)) : Mt mS_pickSpot 10 [.inr 3, .inl x1, .inl x2] h0 post := by
  refine mt_body (L := [(0, .inr 3), (1, .inl x1), (2, .inl x2)]) (by decide +kernel) (Nat.le_of_ble_eq_true rfl) rfl ?_
  refine ev_aload_n (pc := 0) dS_pickSpot_0 0 rfl rfl ?_
  refine ev_getR (pc := 1) dS_pickSpot_1 lS_39 rfl rfl ?_
  refine ev_iload_n (pc := 4) dS_pickSpot_4 1 rfl rfl ?_
  refine ev_iald (pc := 5) dS_pickSpot_5 hs (fun r5 hs => ?_)
  refine ev_istore_n (pc := 6) (L' := [(0, .inr 3), (1, .inl x1), (2, .inl x2), (3, .inl r5)]) dS_pickSpot_6 rfl rfl (Nat.le_of_ble_eq_true rfl) rfl ?_
  refine ev_aload_n (pc := 7) dS_pickSpot_7 0 rfl rfl ?_
  refine ev_iload_n (pc := 8) dS_pickSpot_8 3 rfl rfl ?_
  refine ev_callV (pc := 9) (As := [.inl r5]) (S := []) (d2 := 1) dS_pickSpot_9 vS_194 zS_waysOfOthers rfl rfl rfl rfl (Nat.le_of_ble_eq_true rfl) (Nat.le_of_ble_eq_true rfl) rfl rfl (fun p1 hz => cS_waysOfOthers hz) hs (fun r9 h9 hs => ?_)
  refine ev_istore (pc := 12) (L' := [(0, .inr 3), (1, .inl x1), (2, .inl x2), (3, .inl r5), (4, .inl r9)]) dS_pickSpot_12 rfl (Nat.le_of_ble_eq_true rfl) rfl ?_
  refine ev_iload_n (pc := 14) dS_pickSpot_14 2 rfl rfl ?_
  refine ev_istore (pc := 15) (L' := [(0, .inr 3), (1, .inl x1), (2, .inl x2), (3, .inl r5), (4, .inl r9), (5, .inl x2)]) dS_pickSpot_15 rfl (Nat.le_of_ble_eq_true rfl) rfl ?_
  refine ev_iconst (pc := 17) (v := 0) dS_pickSpot_17 (by decide) ?_
  refine ev_istore (pc := 18) (L' := [(0, .inr 3), (1, .inl x1), (2, .inl x2), (3, .inl r5), (4, .inl r9), (5, .inl x2), (6, .inl 0)]) dS_pickSpot_18 rfl (Nat.le_of_ble_eq_true rfl) rfl ?_
  refine ev_sub [(0, .inr 3), (1, .inl x1), (3, .inl r5), (4, .inl r9), (5, .inl x2), (6, .inl 0)] [0, 1, 3, 4, 5, 6] rfl ?_
  refine cS_pickSpot_L20 (fun x5_76 x6_76 x7_76 h76 hs => ?_) _ _ _ _ hs
  refine ev_aload_n (pc := 76) dS_pickSpot_76 0 rfl rfl ?_
  refine ev_getR (pc := 77) dS_pickSpot_77 lS_57 rfl rfl ?_
  refine ev_iload_n (pc := 80) dS_pickSpot_80 2 rfl rfl ?_
  refine ev_iload (pc := 81) dS_pickSpot_81 5 rfl ?_
  refine ev_iast (pc := 83) dS_pickSpot_83 hs (fun h83 hs => ?_)
  refine ev_aload_n (pc := 84) dS_pickSpot_84 0 rfl rfl ?_
  refine ev_getR (pc := 85) dS_pickSpot_85 lS_60 rfl rfl ?_
  refine ev_iload_n (pc := 88) dS_pickSpot_88 1 rfl rfl ?_
  refine ev_iload (pc := 89) dS_pickSpot_89 4 rfl ?_
  refine ev_iast (pc := 91) dS_pickSpot_91 hs (fun h91 hs => ?_)
  refine ev_iload (pc := 92) dS_pickSpot_92 3 rfl ?_
  exact ev_iret rfl dS_pickSpot_94 hs
set_option maxHeartbeats 4000000 in
set_option maxRecDepth 100000 in
theorem cS_pick_L4 {k39 : Hp → RO} {x2 : Int32} {post : Int32 → Hp → Prop} (hk39 : ∀  (h : Hp), Sat post (k39 h) → Ev mS_pick 11 39 [(0, .inr 3), (2, .inl x2)] [] h post) : ∀ (n : Nat) (x3_4 : Int32) (h4 : Hp), Sat post (fS_pick_L4 k39 x2 n x3_4 h4) → Ev mS_pick 11 4 [(0, .inr 3), (2, .inl x2), (3, .inl x3_4)] [] h4 post := by
  intro n
  induction n with
  | zero =>
    intro x3_4 h4 hs
    exact False.elim hs
  | succ n ih =>
    intro x3_4 h4 hs
    refine ev_iload_n (pc := 4) dS_pick_4 2 rfl rfl ?_
    refine ev_iconst (pc := 5) (v := 5) dS_pick_5 (by decide) ?_
    refine ev_icmp_ge (pc := 6) (tgt := 39) dS_pick_6 (by decide) hs (fun hs => ?_) (fun hs => ?_)
    · refine ev_sub [(0, .inr 3), (2, .inl x2)] [0, 1] rfl ?_
      exact hk39 _ hs
    · refine ev_aload_n (pc := 9) dS_pick_9 0 rfl rfl ?_
      refine ev_getR (pc := 10) dS_pick_10 lS_45 rfl rfl ?_
      refine ev_iload_n (pc := 13) dS_pick_13 2 rfl rfl ?_
      refine ev_aload_n (pc := 14) dS_pick_14 0 rfl rfl ?_
      refine ev_getR (pc := 15) dS_pick_15 lS_48 rfl rfl ?_
      refine ev_iload_n (pc := 18) dS_pick_18 2 rfl rfl ?_
      refine ev_iald (pc := 19) dS_pick_19 hs (fun r19 hs => ?_)
      refine ev_iast (pc := 20) dS_pick_20 hs (fun h20 hs => ?_)
      refine ev_aload_n (pc := 21) dS_pick_21 0 rfl rfl ?_
      refine ev_getR (pc := 22) dS_pick_22 lS_57 rfl rfl ?_
      refine ev_iload_n (pc := 25) dS_pick_25 2 rfl rfl ?_
      refine ev_aload_n (pc := 26) dS_pick_26 0 rfl rfl ?_
      refine ev_getR (pc := 27) dS_pick_27 lS_54 rfl rfl ?_
      refine ev_iload_n (pc := 30) dS_pick_30 2 rfl rfl ?_
      refine ev_iald (pc := 31) dS_pick_31 hs (fun r31 hs => ?_)
      refine ev_iast (pc := 32) dS_pick_32 hs (fun h32 hs => ?_)
      refine ev_iinc (pc := 33) (L' := [(0, .inr 3), (2, .inl x2), (3, .inl (x3_4 + 1))]) (v := (x3_4 + 1)) dS_pick_33 2 rfl (congrArg (HAdd.hAdd _) (by decide)) rfl (Nat.le_of_ble_eq_true rfl) rfl ?_
      refine ev_goto (pc := 36) (tgt := 4) dS_pick_36 (by decide) ?_
      exact ih _ _ hs
set_option maxHeartbeats 4000000 in
set_option maxRecDepth 100000 in
theorem cS_pick_L41  {post : Int32 → Hp → Prop}  : ∀ (n : Nat) (x2_41 : Int32) (x3_41 : Int32) (h41 : Hp), Sat post (fS_pick_L41 n x2_41 x3_41 h41) → Ev mS_pick 11 41 [(0, .inr 3), (2, .inl x2_41), (3, .inl x3_41)] [] h41 post := by
  intro n
  induction n with
  | zero =>
    intro x2_41 x3_41 h41 hs
    exact False.elim hs
  | succ n ih =>
    intro x2_41 x3_41 h41 hs
    refine ev_iload_n (pc := 41) dS_pick_41 2 rfl rfl ?_
    refine ev_iconst (pc := 42) (v := 5) dS_pick_42 (by decide) ?_
    refine ev_icmp_ge (pc := 43) (tgt := 68) dS_pick_43 (by decide) hs (fun hs => ?_) (fun hs => ?_)
    · exact ev_vret rfl dS_pick_68 hs
    · refine ev_aload_n (pc := 46) dS_pick_46 0 rfl rfl ?_
      refine ev_getR (pc := 47) dS_pick_47 lS_35 rfl rfl ?_
      refine ev_iload_n (pc := 50) dS_pick_50 2 rfl rfl ?_
      refine ev_zald (pc := 51) dS_pick_51 hs (fun r51 hs => ?_)
      refine ev_jn (fun (j : Int32 → Hp → RO) => ∀ (x2_62 : Int32) (h62 : Hp), Sat post (j x2_62 h62) → Ev mS_pick 11 62 [(0, .inr 3), (2, .inl x2_62), (3, .inl x3_41)] [] h62 post) hs (fun x2_62 h62 hs => ?_) (fun j62 hj62 hs => ?_)
      · refine ev_iinc (pc := 62) (L' := [(0, .inr 3), (2, .inl x2_62), (3, .inl (x3_41 + 1))]) (v := (x3_41 + 1)) dS_pick_62 2 rfl (congrArg (HAdd.hAdd _) (by decide)) rfl (Nat.le_of_ble_eq_true rfl) rfl ?_
        refine ev_goto (pc := 65) (tgt := 41) dS_pick_65 (by decide) ?_
        exact ih _ _ _ hs
      refine ev_if_eq (pc := 52) (tgt := 62) dS_pick_52 (by decide) hs (fun hs => ?_) (fun hs => ?_)
      · exact hj62 _ _ hs
      · refine ev_aload_n (pc := 55) dS_pick_55 0 rfl rfl ?_
        refine ev_iload_n (pc := 56) dS_pick_56 2 rfl rfl ?_
        refine ev_iload_n (pc := 57) dS_pick_57 1 rfl rfl ?_
        refine ev_callV (pc := 58) (As := [.inl x3_41, .inl x2_41]) (S := []) (d2 := 10) dS_pick_58 vS_191 zS_pickSpot rfl rfl rfl rfl (Nat.le_of_ble_eq_true rfl) (Nat.le_of_ble_eq_true rfl) rfl rfl (fun p1 hz => cS_pickSpot hz) hs (fun r58 h58 hs => ?_)
        refine ev_istore_n (pc := 61) (L' := [(0, .inr 3), (2, .inl r58), (3, .inl x3_41)]) dS_pick_61 rfl rfl (Nat.le_of_ble_eq_true rfl) rfl ?_
        exact hj62 _ _ hs
set_option maxHeartbeats 4000000 in
set_option maxRecDepth 100000 in
theorem cS_pick {h0 : Hp} {x1 : Int32} {post : Int32 → Hp → Prop} (hs : Sat post (fS_pick h0 x1)) : Mt mS_pick 11 [.inr 3, .inl x1] h0 post := by
  refine mt_body (L := [(0, .inr 3), (1, .inl x1)]) (by decide +kernel) (Nat.le_of_ble_eq_true rfl) rfl ?_
  refine ev_iload_n (pc := 0) dS_pick_0 1 rfl rfl ?_
  refine ev_istore_n (pc := 1) (L' := [(0, .inr 3), (1, .inl x1), (2, .inl x1)]) dS_pick_1 rfl rfl (Nat.le_of_ble_eq_true rfl) rfl ?_
  refine ev_iconst (pc := 2) (v := 0) dS_pick_2 (by decide) ?_
  refine ev_istore_n (pc := 3) (L' := [(0, .inr 3), (1, .inl x1), (2, .inl x1), (3, .inl 0)]) dS_pick_3 rfl rfl (Nat.le_of_ble_eq_true rfl) rfl ?_
  refine ev_sub [(0, .inr 3), (2, .inl x1), (3, .inl 0)] [0, 2, 3] rfl ?_
  refine cS_pick_L4 (fun h39 hs => ?_) _ _ _ hs
  refine ev_iconst (pc := 39) (v := 0) dS_pick_39 (by decide) ?_
  refine ev_istore_n (pc := 40) (L' := [(0, .inr 3), (2, .inl x1), (3, .inl 0)]) dS_pick_40 rfl rfl (Nat.le_of_ble_eq_true rfl) rfl ?_
  exact cS_pick_L41  _ _ _ _ hs
set_option maxHeartbeats 4000000 in
set_option maxRecDepth 100000 in
theorem cS_spotIn {h0 : Hp} {x1 : Int32} {x2 : Int32} {post : Int32 → Hp → Prop} (hs : Sat post (fS_spotIn h0 x1 x2)) : Mt mS_spotIn 12 [.inr 3, .inl x1, .inl x2] h0 post := by
  refine mt_body (L := [(0, .inr 3), (1, .inl x1), (2, .inl x2)]) (by decide +kernel) (Nat.le_of_ble_eq_true rfl) rfl ?_
  refine ev_aload_n (pc := 0) dS_spotIn_0 0 rfl rfl ?_
  refine ev_getI (pc := 1) dS_spotIn_1 lS_32 rfl rfl ?_
  refine ev_iload_n (pc := 4) dS_spotIn_4 1 rfl rfl ?_
  refine ev_jn (fun (j : Hp → RO) => ∀  (h18 : Hp), Sat post (j h18) → Ev mS_spotIn 12 18 [(0, .inr 3), (2, .inl x2)] [] h18 post) hs (fun h18 hs => ?_) (fun j18 hj18 hs => ?_)
  · refine ev_aload_n (pc := 18) dS_spotIn_18 0 rfl rfl ?_
    refine ev_getR (pc := 19) dS_spotIn_19 lS_60 rfl rfl ?_
    refine ev_iload_n (pc := 22) dS_spotIn_22 1 rfl rfl ?_
    refine ev_iald (pc := 23) dS_spotIn_23 hs (fun r23 hs => ?_)
    exact ev_iret rfl dS_spotIn_24 hs
  refine ev_icmp_eq (pc := 5) (tgt := 18) dS_spotIn_5 (by decide) hs (fun hs => ?_) (fun hs => ?_)
  · refine ev_sub [(0, .inr 3), (2, .inl x2)] [0, 2] rfl ?_
    exact hj18 _ hs
  · refine ev_aload_n (pc := 8) dS_spotIn_8 0 rfl rfl ?_
    refine ev_iload_n (pc := 9) dS_spotIn_9 1 rfl rfl ?_
    refine ev_callVv (pc := 10) (As := [.inl x1]) (S := []) (d2 := 11) dS_spotIn_10 vS_105 zS_pick rfl rfl rfl rfl (Nat.le_of_ble_eq_true rfl) (Nat.le_of_ble_eq_true rfl) rfl rfl (fun p1 hz => cS_pick hz) hs (fun r10 h10 hs => ?_)
    refine ev_aload_n (pc := 13) dS_spotIn_13 0 rfl rfl ?_
    refine ev_iload_n (pc := 14) dS_spotIn_14 1 rfl rfl ?_
    refine ev_putI (pc := 15) dS_spotIn_15 lS_32 w1_8 rfl rfl hs (fun h15 hs => ?_)
    refine ev_sub [(0, .inr 3), (2, .inl x2)] [0, 2] rfl ?_
    exact hj18 _ hs
