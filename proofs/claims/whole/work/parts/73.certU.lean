/-! CERTIFICATES: the methods do what their functions say: printed by a program of mine -/
set_option maxHeartbeats 4000000 in
set_option maxRecDepth 100000 in
theorem cU_insert_L13 {k61 : Int32 → Hp → RO} {x1 : Int32} {x3 : Int32} {post : Int32 → Hp → Prop} (hk61 : ∀ (y4 : Int32) (h : Hp), Sat post (k61 y4 h) → Ev mU_insert 1 61 [(0, .inr 4), (1, .inl x1), (4, .inl y4)] [] h post) : ∀ (n : Nat) (x4_13 : Int32) (h13 : Hp), Sat post (fU_insert_L13 k61 x1 x3 n x4_13 h13) → Ev mU_insert 1 13 [(0, .inr 4), (1, .inl x1), (3, .inl x3), (4, .inl x4_13)] [] h13 post := by
  intro n
  induction n with
  | zero =>
    intro x4_13 h13 hs
    exact False.elim hs
  | succ n ih =>
    intro x4_13 h13 hs
    refine ev_iload (pc := 13) dU_insert_13 3 rfl ?_
    refine ev_if_le (pc := 15) (tgt := 61) dU_insert_15 (by decide) hs (fun hs => ?_) (fun hs => ?_)
    · refine ev_sub [(0, .inr 4), (1, .inl x1), (4, .inl x4_13)] [0, 1, 3] rfl ?_
      exact hk61 _ _ hs
    · refine ev_aload_n (pc := 18) dU_insert_18 0 rfl rfl ?_
      refine ev_getR (pc := 19) dU_insert_19 lU_15 rfl rfl ?_
      refine ev_aload_n (pc := 22) dU_insert_22 0 rfl rfl ?_
      refine ev_getR (pc := 23) dU_insert_23 lU_9 rfl rfl ?_
      refine ev_iload (pc := 26) dU_insert_26 3 rfl ?_
      refine ev_iconst (pc := 28) (v := 1) dU_insert_28 (by decide) ?_
      refine ev_isub (pc := 29) dU_insert_29 ?_
      refine ev_iald (pc := 30) dU_insert_30 hs (fun r30 hs => ?_)
      refine ev_iconst (pc := 31) (v := 5) dU_insert_31 (by decide) ?_
      refine ev_callV (pc := 32) (As := [.inl r30, .inl 5]) (S := []) (d2 := 0) dU_insert_32 vU_38 zT_copyFact rfl rfl rfl rfl (Nat.le_of_ble_eq_true rfl) (Nat.le_of_ble_eq_true rfl) rfl rfl (fun p1 hz => cT_copyFact hz) hs (fun r32 h32 hs => ?_)
      refine ev_iload_n (pc := 35) dU_insert_35 2 rfl rfl ?_
      refine ev_icmp_le (pc := 36) (tgt := 61) dU_insert_36 (by decide) hs (fun hs => ?_) (fun hs => ?_)
      · refine ev_sub [(0, .inr 4), (1, .inl x1), (4, .inl x4_13)] [0, 1, 3] rfl ?_
        exact hk61 _ _ hs
      · refine ev_aload_n (pc := 39) dU_insert_39 0 rfl rfl ?_
        refine ev_getR (pc := 40) dU_insert_40 lU_9 rfl rfl ?_
        refine ev_iload (pc := 43) dU_insert_43 3 rfl ?_
        refine ev_aload_n (pc := 45) dU_insert_45 0 rfl rfl ?_
        refine ev_getR (pc := 46) dU_insert_46 lU_9 rfl rfl ?_
        refine ev_iload (pc := 49) dU_insert_49 3 rfl ?_
        refine ev_iconst (pc := 51) (v := 1) dU_insert_51 (by decide) ?_
        refine ev_isub (pc := 52) dU_insert_52 ?_
        refine ev_iald (pc := 53) dU_insert_53 hs (fun r53 hs => ?_)
        refine ev_iast (pc := 54) dU_insert_54 hs (fun h54 hs => ?_)
        refine ev_iinc (pc := 55) (L' := [(0, .inr 4), (1, .inl x1), (3, .inl x3), (4, .inl (x4_13 + (-1)))]) (v := (x4_13 + (-1))) dU_insert_55 3 rfl (congrArg (HAdd.hAdd _) (by decide)) rfl (Nat.le_of_ble_eq_true rfl) rfl ?_
        refine ev_goto (pc := 58) (tgt := 13) dU_insert_58 (by decide) ?_
        exact ih _ _ hs
set_option maxHeartbeats 4000000 in
set_option maxRecDepth 100000 in
theorem cU_insert {h0 : Hp} {x1 : Int32} {x2 : Int32} {post : Int32 → Hp → Prop} (hs : Sat post (fU_insert h0 x1 x2)) : Mt mU_insert 1 [.inr 4, .inl x1, .inl x2] h0 post := by
  refine mt_body (L := [(0, .inr 4), (1, .inl x1), (2, .inl x2)]) (by decide +kernel) (Nat.le_of_ble_eq_true rfl) rfl ?_
  refine ev_aload_n (pc := 0) dU_insert_0 0 rfl rfl ?_
  refine ev_getR (pc := 1) dU_insert_1 lU_15 rfl rfl ?_
  refine ev_iload_n (pc := 4) dU_insert_4 1 rfl rfl ?_
  refine ev_iconst (pc := 5) (v := 5) dU_insert_5 (by decide) ?_
  refine ev_callV (pc := 6) (As := [.inl x1, .inl 5]) (S := []) (d2 := 0) dU_insert_6 vU_38 zT_copyFact rfl rfl rfl rfl (Nat.le_of_ble_eq_true rfl) (Nat.le_of_ble_eq_true rfl) rfl rfl (fun p1 hz => cT_copyFact hz) hs (fun r6 h6 hs => ?_)
  refine ev_istore_n (pc := 9) (L' := [(0, .inr 4), (1, .inl x1), (2, .inl x2), (3, .inl r6)]) dU_insert_9 rfl rfl (Nat.le_of_ble_eq_true rfl) rfl ?_
  refine ev_iload_n (pc := 10) dU_insert_10 2 rfl rfl ?_
  refine ev_istore (pc := 11) (L' := [(0, .inr 4), (1, .inl x1), (2, .inl x2), (3, .inl r6), (4, .inl x2)]) dU_insert_11 rfl (Nat.le_of_ble_eq_true rfl) rfl ?_
  refine ev_sub [(0, .inr 4), (1, .inl x1), (3, .inl r6), (4, .inl x2)] [0, 1, 3, 4] rfl ?_
  refine cU_insert_L13 (fun x4_61 h61 hs => ?_) _ _ _ hs
  refine ev_aload_n (pc := 61) dU_insert_61 0 rfl rfl ?_
  refine ev_getR (pc := 62) dU_insert_62 lU_9 rfl rfl ?_
  refine ev_iload (pc := 65) dU_insert_65 2 rfl ?_
  refine ev_iload_n (pc := 67) dU_insert_67 1 rfl rfl ?_
  refine ev_iast (pc := 68) dU_insert_68 hs (fun h68 hs => ?_)
  exact ev_vret rfl dU_insert_69 hs
set_option maxHeartbeats 4000000 in
set_option maxRecDepth 100000 in
theorem cU_lineUp_L4 {x1 : Int32} {post : Int32 → Hp → Prop}  : ∀ (n : Nat) (x2_4 : Int32) (x3_4 : Int32) (h4 : Hp), Sat post (fU_lineUp_L4 x1 n x2_4 x3_4 h4) → Ev mU_lineUp 2 4 [(0, .inr 4), (1, .inl x1), (2, .inl x2_4), (3, .inl x3_4)] [] h4 post := by
  intro n
  induction n with
  | zero =>
    intro x2_4 x3_4 h4 hs
    exact False.elim hs
  | succ n ih =>
    intro x2_4 x3_4 h4 hs
    refine ev_iload_n (pc := 4) dU_lineUp_4 3 rfl rfl ?_
    refine ev_aload_n (pc := 5) dU_lineUp_5 0 rfl rfl ?_
    refine ev_getR (pc := 6) dU_lineUp_6 lU_15 rfl rfl ?_
    refine ev_getI (pc := 9) dU_lineUp_9 lU_23 rfl rfl ?_
    refine ev_icmp_ge (pc := 12) (tgt := 52) dU_lineUp_12 (by decide) hs (fun hs => ?_) (fun hs => ?_)
    · refine ev_iload_n (pc := 52) dU_lineUp_52 2 rfl rfl ?_
      exact ev_iret rfl dU_lineUp_53 hs
    · refine ev_iload_n (pc := 15) dU_lineUp_15 2 rfl rfl ?_
      refine ev_aload_n (pc := 16) dU_lineUp_16 0 rfl rfl ?_
      refine ev_getR (pc := 17) dU_lineUp_17 lU_9 rfl rfl ?_
      refine ev_aln (pc := 20) dU_lineUp_20 hs (fun n20 hs => ?_)
      refine ev_icmp_ge (pc := 21) (tgt := 52) dU_lineUp_21 (by decide) hs (fun hs => ?_) (fun hs => ?_)
      · refine ev_iload_n (pc := 52) dU_lineUp_52 2 rfl rfl ?_
        exact ev_iret rfl dU_lineUp_53 hs
      · refine ev_aload_n (pc := 24) dU_lineUp_24 0 rfl rfl ?_
        refine ev_getR (pc := 25) dU_lineUp_25 lU_19 rfl rfl ?_
        refine ev_getR (pc := 28) dU_lineUp_28 lU_29 rfl rfl ?_
        refine ev_iload_n (pc := 31) dU_lineUp_31 3 rfl rfl ?_
        refine ev_iald (pc := 32) dU_lineUp_32 hs (fun r32 hs => ?_)
        refine ev_iload_n (pc := 33) dU_lineUp_33 1 rfl rfl ?_
        refine ev_jn (fun (j : Int32 → Hp → RO) => ∀ (x2_46 : Int32) (h46 : Hp), Sat post (j x2_46 h46) → Ev mU_lineUp 2 46 [(0, .inr 4), (1, .inl x1), (2, .inl x2_46), (3, .inl x3_4)] [] h46 post) hs (fun x2_46 h46 hs => ?_) (fun j46 hj46 hs => ?_)
        · refine ev_iinc (pc := 46) (L' := [(0, .inr 4), (1, .inl x1), (2, .inl x2_46), (3, .inl (x3_4 + 1))]) (v := (x3_4 + 1)) dU_lineUp_46 3 rfl (congrArg (HAdd.hAdd _) (by decide)) rfl (Nat.le_of_ble_eq_true rfl) rfl ?_
          refine ev_goto (pc := 49) (tgt := 4) dU_lineUp_49 (by decide) ?_
          exact ih _ _ _ hs
        refine ev_icmp_ne (pc := 34) (tgt := 46) dU_lineUp_34 (by decide) hs (fun hs => ?_) (fun hs => ?_)
        · exact hj46 _ _ hs
        · refine ev_aload_n (pc := 37) dU_lineUp_37 0 rfl rfl ?_
          refine ev_iload_n (pc := 38) dU_lineUp_38 3 rfl rfl ?_
          refine ev_iload_n (pc := 39) dU_lineUp_39 2 rfl rfl ?_
          refine ev_callVv (pc := 40) (As := [.inl x3_4, .inl x2_4]) (S := []) (d2 := 1) dU_lineUp_40 vU_34 zU_insert rfl rfl rfl rfl (Nat.le_of_ble_eq_true rfl) (Nat.le_of_ble_eq_true rfl) rfl rfl (fun p1 hz => cU_insert hz) hs (fun r40 h40 hs => ?_)
          refine ev_iinc (pc := 43) (L' := [(0, .inr 4), (1, .inl x1), (2, .inl (x2_4 + 1)), (3, .inl x3_4)]) (v := (x2_4 + 1)) dU_lineUp_43 2 rfl (congrArg (HAdd.hAdd _) (by decide)) rfl (Nat.le_of_ble_eq_true rfl) rfl ?_
          exact hj46 _ _ hs
set_option maxHeartbeats 4000000 in
set_option maxRecDepth 100000 in
theorem cU_lineUp {h0 : Hp} {x1 : Int32} {post : Int32 → Hp → Prop} (hs : Sat post (fU_lineUp h0 x1)) : Mt mU_lineUp 2 [.inr 4, .inl x1] h0 post := by
  refine mt_body (L := [(0, .inr 4), (1, .inl x1)]) (by decide +kernel) (Nat.le_of_ble_eq_true rfl) rfl ?_
  refine ev_iconst (pc := 0) (v := 0) dU_lineUp_0 (by decide) ?_
  refine ev_istore_n (pc := 1) (L' := [(0, .inr 4), (1, .inl x1), (2, .inl 0)]) dU_lineUp_1 rfl rfl (Nat.le_of_ble_eq_true rfl) rfl ?_
  refine ev_iconst (pc := 2) (v := 0) dU_lineUp_2 (by decide) ?_
  refine ev_istore_n (pc := 3) (L' := [(0, .inr 4), (1, .inl x1), (2, .inl 0), (3, .inl 0)]) dU_lineUp_3 rfl rfl (Nat.le_of_ble_eq_true rfl) rfl ?_
  exact cU_lineUp_L4  _ _ _ _ hs
set_option maxHeartbeats 4000000 in
set_option maxRecDepth 100000 in
theorem cU_knownOf_L5 {x1 : Int32} {x2 : Int32} {post : Int32 → Hp → Prop}  : ∀ (n : Nat) (x3_5 : Int32) (x4_5 : Int32) (h5 : Hp), Sat post (fU_knownOf_L5 x1 x2 n x3_5 x4_5 h5) → Ev mU_knownOf 2 5 [(0, .inr 4), (1, .inl x1), (2, .inl x2), (3, .inl x3_5), (4, .inl x4_5)] [] h5 post := by
  intro n
  induction n with
  | zero =>
    intro x3_5 x4_5 h5 hs
    exact False.elim hs
  | succ n ih =>
    intro x3_5 x4_5 h5 hs
    refine ev_iload (pc := 5) dU_knownOf_5 4 rfl ?_
    refine ev_iload_n (pc := 7) dU_knownOf_7 1 rfl rfl ?_
    refine ev_icmp_ge (pc := 8) (tgt := 59) dU_knownOf_8 (by decide) hs (fun hs => ?_) (fun hs => ?_)
    · refine ev_iload_n (pc := 59) dU_knownOf_59 3 rfl rfl ?_
      exact ev_iret rfl dU_knownOf_60 hs
    · refine ev_aload_n (pc := 11) dU_knownOf_11 0 rfl rfl ?_
      refine ev_getR (pc := 12) dU_knownOf_12 lU_15 rfl rfl ?_
      refine ev_aload_n (pc := 15) dU_knownOf_15 0 rfl rfl ?_
      refine ev_getR (pc := 16) dU_knownOf_16 lU_9 rfl rfl ?_
      refine ev_iload (pc := 19) dU_knownOf_19 4 rfl ?_
      refine ev_iald (pc := 21) dU_knownOf_21 hs (fun r21 hs => ?_)
      refine ev_iload_n (pc := 22) dU_knownOf_22 2 rfl rfl ?_
      refine ev_callV (pc := 23) (As := [.inl r21, .inl x2]) (S := []) (d2 := 1) dU_knownOf_23 vU_42 zT_markOf rfl rfl rfl rfl (Nat.le_of_ble_eq_true rfl) (Nat.le_of_ble_eq_true rfl) rfl rfl (fun p1 hz => cT_markOf hz) hs (fun r23 h23 hs => ?_)
      refine ev_istore (pc := 26) (L' := [(0, .inr 4), (1, .inl x1), (2, .inl x2), (3, .inl x3_5), (4, .inl x4_5), (5, .inl r23)]) dU_knownOf_26 rfl (Nat.le_of_ble_eq_true rfl) rfl ?_
      refine ev_iload_n (pc := 28) dU_knownOf_28 3 rfl rfl ?_
      refine ev_iconst (pc := 29) (v := 2) dU_knownOf_29 (by decide) ?_
      refine ev_jn (fun (j : Int32 → Hp → RO) => ∀ (x3_53 : Int32) (h53 : Hp), Sat post (j x3_53 h53) → Ev mU_knownOf 2 53 [(0, .inr 4), (1, .inl x1), (2, .inl x2), (3, .inl x3_53), (4, .inl x4_5)] [] h53 post) hs (fun x3_53 h53 hs => ?_) (fun j53 hj53 hs => ?_)
      · refine ev_iinc (pc := 53) (L' := [(0, .inr 4), (1, .inl x1), (2, .inl x2), (3, .inl x3_53), (4, .inl (x4_5 + 1))]) (v := (x4_5 + 1)) dU_knownOf_53 4 rfl (congrArg (HAdd.hAdd _) (by decide)) rfl (Nat.le_of_ble_eq_true rfl) rfl ?_
        refine ev_goto (pc := 56) (tgt := 5) dU_knownOf_56 (by decide) ?_
        exact ih _ _ _ hs
      refine ev_icmp_ne (pc := 30) (tgt := 39) dU_knownOf_30 (by decide) hs (fun hs => ?_) (fun hs => ?_)
      · refine ev_iload (pc := 39) dU_knownOf_39 5 rfl ?_
        refine ev_iconst (pc := 41) (v := 2) dU_knownOf_41 (by decide) ?_
        refine ev_icmp_eq (pc := 42) (tgt := 53) dU_knownOf_42 (by decide) hs (fun hs => ?_) (fun hs => ?_)
        · refine ev_sub [(0, .inr 4), (1, .inl x1), (2, .inl x2), (3, .inl x3_5), (4, .inl x4_5)] [0, 1, 2, 3, 4] rfl ?_
          exact hj53 _ _ hs
        · refine ev_iload (pc := 45) dU_knownOf_45 5 rfl ?_
          refine ev_iload_n (pc := 47) dU_knownOf_47 3 rfl rfl ?_
          refine ev_icmp_eq (pc := 48) (tgt := 53) dU_knownOf_48 (by decide) hs (fun hs => ?_) (fun hs => ?_)
          · refine ev_sub [(0, .inr 4), (1, .inl x1), (2, .inl x2), (3, .inl x3_5), (4, .inl x4_5)] [0, 1, 2, 3, 4] rfl ?_
            exact hj53 _ _ hs
          · refine ev_iconst (pc := 51) (v := 3) dU_knownOf_51 (by decide) ?_
            exact ev_iret rfl dU_knownOf_52 hs
      · refine ev_iload (pc := 33) dU_knownOf_33 5 rfl ?_
        refine ev_istore_n (pc := 35) (L' := [(0, .inr 4), (1, .inl x1), (2, .inl x2), (3, .inl r23), (4, .inl x4_5), (5, .inl r23)]) dU_knownOf_35 rfl rfl (Nat.le_of_ble_eq_true rfl) rfl ?_
        refine ev_goto (pc := 36) (tgt := 53) dU_knownOf_36 (by decide) ?_
        refine ev_sub [(0, .inr 4), (1, .inl x1), (2, .inl x2), (3, .inl r23), (4, .inl x4_5)] [0, 1, 2, 3, 4] rfl ?_
        exact hj53 _ _ hs
set_option maxHeartbeats 4000000 in
set_option maxRecDepth 100000 in
theorem cU_knownOf {h0 : Hp} {x1 : Int32} {x2 : Int32} {post : Int32 → Hp → Prop} (hs : Sat post (fU_knownOf h0 x1 x2)) : Mt mU_knownOf 2 [.inr 4, .inl x1, .inl x2] h0 post := by
  refine mt_body (L := [(0, .inr 4), (1, .inl x1), (2, .inl x2)]) (by decide +kernel) (Nat.le_of_ble_eq_true rfl) rfl ?_
  refine ev_iconst (pc := 0) (v := 2) dU_knownOf_0 (by decide) ?_
  refine ev_istore_n (pc := 1) (L' := [(0, .inr 4), (1, .inl x1), (2, .inl x2), (3, .inl 2)]) dU_knownOf_1 rfl rfl (Nat.le_of_ble_eq_true rfl) rfl ?_
  refine ev_iconst (pc := 2) (v := 0) dU_knownOf_2 (by decide) ?_
  refine ev_istore (pc := 3) (L' := [(0, .inr 4), (1, .inl x1), (2, .inl x2), (3, .inl 2), (4, .inl 0)]) dU_knownOf_3 rfl (Nat.le_of_ble_eq_true rfl) rfl ?_
  exact cU_knownOf_L5  _ _ _ _ hs
set_option maxHeartbeats 4000000 in
set_option maxRecDepth 100000 in
theorem cU_changesOf_L8 {x1 : Int32} {x2 : Int32} {post : Int32 → Hp → Prop}  : ∀ (n : Nat) (x3_8 : Int32) (x4_8 : Int32) (x5_8 : Int32) (h8 : Hp), Sat post (fU_changesOf_L8 x1 x2 n x3_8 x4_8 x5_8 h8) → Ev mU_changesOf 2 8 [(0, .inr 4), (1, .inl x1), (2, .inl x2), (3, .inl x3_8), (4, .inl x4_8), (5, .inl x5_8)] [] h8 post := by
  intro n
  induction n with
  | zero =>
    intro x3_8 x4_8 x5_8 h8 hs
    exact False.elim hs
  | succ n ih =>
    intro x3_8 x4_8 x5_8 h8 hs
    refine ev_iload (pc := 8) dU_changesOf_8 5 rfl ?_
    refine ev_iload_n (pc := 10) dU_changesOf_10 1 rfl rfl ?_
    refine ev_icmp_ge (pc := 11) (tgt := 68) dU_changesOf_11 (by decide) hs (fun hs => ?_) (fun hs => ?_)
    · refine ev_iload_n (pc := 68) dU_changesOf_68 3 rfl rfl ?_
      exact ev_iret rfl dU_changesOf_69 hs
    · refine ev_aload_n (pc := 14) dU_changesOf_14 0 rfl rfl ?_
      refine ev_getR (pc := 15) dU_changesOf_15 lU_15 rfl rfl ?_
      refine ev_aload_n (pc := 18) dU_changesOf_18 0 rfl rfl ?_
      refine ev_getR (pc := 19) dU_changesOf_19 lU_9 rfl rfl ?_
      refine ev_iload (pc := 22) dU_changesOf_22 5 rfl ?_
      refine ev_iald (pc := 24) dU_changesOf_24 hs (fun r24 hs => ?_)
      refine ev_iload_n (pc := 25) dU_changesOf_25 2 rfl rfl ?_
      refine ev_callV (pc := 26) (As := [.inl r24, .inl x2]) (S := []) (d2 := 1) dU_changesOf_26 vU_42 zT_markOf rfl rfl rfl rfl (Nat.le_of_ble_eq_true rfl) (Nat.le_of_ble_eq_true rfl) rfl rfl (fun p1 hz => cT_markOf hz) hs (fun r26 h26 hs => ?_)
      refine ev_istore (pc := 29) (L' := [(0, .inr 4), (1, .inl x1), (2, .inl x2), (3, .inl x3_8), (4, .inl x4_8), (5, .inl x5_8), (6, .inl r26)]) dU_changesOf_29 rfl (Nat.le_of_ble_eq_true rfl) rfl ?_
      refine ev_iload (pc := 31) dU_changesOf_31 6 rfl ?_
      refine ev_iconst (pc := 33) (v := 2) dU_changesOf_33 (by decide) ?_
      refine ev_jn (fun (j : Int32 → Int32 → Hp → RO) => ∀ (x3_62 : Int32) (x4_62 : Int32) (h62 : Hp), Sat post (j x3_62 x4_62 h62) → Ev mU_changesOf 2 62 [(0, .inr 4), (1, .inl x1), (2, .inl x2), (3, .inl x3_62), (4, .inl x4_62), (5, .inl x5_8)] [] h62 post) hs (fun x3_62 x4_62 h62 hs => ?_) (fun j62 hj62 hs => ?_)
      · refine ev_iinc (pc := 62) (L' := [(0, .inr 4), (1, .inl x1), (2, .inl x2), (3, .inl x3_62), (4, .inl x4_62), (5, .inl (x5_8 + 1))]) (v := (x5_8 + 1)) dU_changesOf_62 5 rfl (congrArg (HAdd.hAdd _) (by decide)) rfl (Nat.le_of_ble_eq_true rfl) rfl ?_
        refine ev_goto (pc := 65) (tgt := 8) dU_changesOf_65 (by decide) ?_
        exact ih _ _ _ _ hs
      refine ev_icmp_eq (pc := 34) (tgt := 62) dU_changesOf_34 (by decide) hs (fun hs => ?_) (fun hs => ?_)
      · refine ev_sub [(0, .inr 4), (1, .inl x1), (2, .inl x2), (3, .inl x3_8), (4, .inl x4_8), (5, .inl x5_8)] [0, 1, 2, 3, 4, 5] rfl ?_
        exact hj62 _ _ _ hs
      · refine ev_iload_n (pc := 37) dU_changesOf_37 3 rfl rfl ?_
        refine ev_iload (pc := 38) dU_changesOf_38 4 rfl ?_
        refine ev_iconst (pc := 40) (v := 2) dU_changesOf_40 (by decide) ?_
        refine ev_jn (fun (j : Int32 → Hp → RO) => ∀ (s56 : Int32) (h56 : Hp), Sat post (j s56 h56) → Ev mU_changesOf 2 56 [(0, .inr 4), (1, .inl x1), (2, .inl x2), (5, .inl x5_8), (6, .inl r26)] [.inl s56, .inl x3_8] h56 post) hs (fun s56 h56 hs => ?_) (fun j56 hj56 hs => ?_)
        · refine ev_iadd (pc := 56) dU_changesOf_56 ?_
          refine ev_bnd hs (fun v57 hs => ?_)
          refine ev_istore_n (pc := 57) (L' := [(0, .inr 4), (1, .inl x1), (2, .inl x2), (3, .inl v57), (5, .inl x5_8), (6, .inl r26)]) dU_changesOf_57 rfl rfl (Nat.le_of_ble_eq_true rfl) rfl ?_
          refine ev_iload (pc := 58) dU_changesOf_58 5 rfl ?_
          refine ev_istore (pc := 60) (L' := [(0, .inr 4), (1, .inl x1), (2, .inl x2), (3, .inl v57), (4, .inl r26), (5, .inl x5_8), (6, .inl r26)]) dU_changesOf_60 rfl (Nat.le_of_ble_eq_true rfl) rfl ?_
          refine ev_sub [(0, .inr 4), (1, .inl x1), (2, .inl x2), (3, .inl v57), (4, .inl r26), (5, .inl x5_8)] [0, 1, 2, 3, 4, 5] rfl ?_
          exact hj62 _ _ _ hs
        refine ev_jn (fun (j : Hp → RO) => ∀  (h55 : Hp), Sat post (j h55) → Ev mU_changesOf 2 55 [(0, .inr 4), (1, .inl x1), (2, .inl x2), (5, .inl x5_8), (6, .inl r26)] [.inl x3_8] h55 post) hs (fun h55 hs => ?_) (fun j55 hj55 hs => ?_)
        · refine ev_iconst (pc := 55) (v := 0) dU_changesOf_55 (by decide) ?_
          exact hj56 _ _ hs
        refine ev_icmp_eq (pc := 41) (tgt := 55) dU_changesOf_41 (by decide) hs (fun hs => ?_) (fun hs => ?_)
        · refine ev_sub [(0, .inr 4), (1, .inl x1), (2, .inl x2), (5, .inl x5_8), (6, .inl r26)] [0, 1, 2, 5, 6] rfl ?_
          exact hj55 _ hs
        · refine ev_iload (pc := 44) dU_changesOf_44 4 rfl ?_
          refine ev_iload (pc := 46) dU_changesOf_46 6 rfl ?_
          refine ev_icmp_eq (pc := 48) (tgt := 55) dU_changesOf_48 (by decide) hs (fun hs => ?_) (fun hs => ?_)
          · refine ev_sub [(0, .inr 4), (1, .inl x1), (2, .inl x2), (5, .inl x5_8), (6, .inl r26)] [0, 1, 2, 5, 6] rfl ?_
            exact hj55 _ hs
          · refine ev_iconst (pc := 51) (v := 1) dU_changesOf_51 (by decide) ?_
            refine ev_goto (pc := 52) (tgt := 56) dU_changesOf_52 (by decide) ?_
            refine ev_sub [(0, .inr 4), (1, .inl x1), (2, .inl x2), (5, .inl x5_8), (6, .inl r26)] [0, 1, 2, 5, 6] rfl ?_
            exact hj56 _ _ hs
set_option maxHeartbeats 4000000 in
set_option maxRecDepth 100000 in
theorem cU_changesOf {h0 : Hp} {x1 : Int32} {x2 : Int32} {post : Int32 → Hp → Prop} (hs : Sat post (fU_changesOf h0 x1 x2)) : Mt mU_changesOf 2 [.inr 4, .inl x1, .inl x2] h0 post := by
  refine mt_body (L := [(0, .inr 4), (1, .inl x1), (2, .inl x2)]) (by decide +kernel) (Nat.le_of_ble_eq_true rfl) rfl ?_
  refine ev_iconst (pc := 0) (v := 0) dU_changesOf_0 (by decide) ?_
  refine ev_istore_n (pc := 1) (L' := [(0, .inr 4), (1, .inl x1), (2, .inl x2), (3, .inl 0)]) dU_changesOf_1 rfl rfl (Nat.le_of_ble_eq_true rfl) rfl ?_
  refine ev_iconst (pc := 2) (v := 2) dU_changesOf_2 (by decide) ?_
  refine ev_istore (pc := 3) (L' := [(0, .inr 4), (1, .inl x1), (2, .inl x2), (3, .inl 0), (4, .inl 2)]) dU_changesOf_3 rfl (Nat.le_of_ble_eq_true rfl) rfl ?_
  refine ev_iconst (pc := 5) (v := 0) dU_changesOf_5 (by decide) ?_
  refine ev_istore (pc := 6) (L' := [(0, .inr 4), (1, .inl x1), (2, .inl x2), (3, .inl 0), (4, .inl 2), (5, .inl 0)]) dU_changesOf_6 rfl (Nat.le_of_ble_eq_true rfl) rfl ?_
  exact cU_changesOf_L8  _ _ _ _ _ hs
set_option maxHeartbeats 4000000 in
set_option maxRecDepth 100000 in
theorem cU_breaksOf_L4 {x1 : Int32} {post : Int32 → Hp → Prop}  : ∀ (n : Nat) (x2_4 : Int32) (x3_4 : Int32) (h4 : Hp), Sat post (fU_breaksOf_L4 x1 n x2_4 x3_4 h4) → Ev mU_breaksOf 3 4 [(0, .inr 4), (1, .inl x1), (2, .inl x2_4), (3, .inl x3_4)] [] h4 post := by
  intro n
  induction n with
  | zero =>
    intro x2_4 x3_4 h4 hs
    exact False.elim hs
  | succ n ih =>
    intro x2_4 x3_4 h4 hs
    refine ev_iload_n (pc := 4) dU_breaksOf_4 3 rfl rfl ?_
    refine ev_bipush (pc := 5) (v := 8) dU_breaksOf_5 (by decide) ?_
    refine ev_icmp_ge (pc := 7) (tgt := 31) dU_breaksOf_7 (by decide) hs (fun hs => ?_) (fun hs => ?_)
    · refine ev_iload_n (pc := 31) dU_breaksOf_31 2 rfl rfl ?_
      exact ev_iret rfl dU_breaksOf_32 hs
    · refine ev_iload_n (pc := 10) dU_breaksOf_10 2 rfl rfl ?_
      refine ev_iconst (pc := 11) (v := 0) dU_breaksOf_11 (by decide) ?_
      refine ev_aload_n (pc := 12) dU_breaksOf_12 0 rfl rfl ?_
      refine ev_iload_n (pc := 13) dU_breaksOf_13 1 rfl rfl ?_
      refine ev_iload_n (pc := 14) dU_breaksOf_14 3 rfl rfl ?_
      refine ev_callV (pc := 15) (As := [.inl x1, .inl x3_4]) (S := [.inl 0, .inl x2_4]) (d2 := 2) dU_breaksOf_15 vU_45 zU_changesOf rfl rfl rfl rfl (Nat.le_of_ble_eq_true rfl) (Nat.le_of_ble_eq_true rfl) rfl rfl (fun p1 hz => cU_changesOf hz) hs (fun r15 h15 hs => ?_)
      refine ev_iconst (pc := 18) (v := 2) dU_breaksOf_18 (by decide) ?_
      refine ev_isub (pc := 19) dU_breaksOf_19 ?_
      refine ev_mmax (pc := 20) dU_breaksOf_20 qU_48 (Nat.le_of_ble_eq_true rfl) (Nat.le_of_ble_eq_true rfl) ?_
      refine ev_iadd (pc := 23) dU_breaksOf_23 ?_
      refine ev_bnd hs (fun v24 hs => ?_)
      refine ev_istore_n (pc := 24) (L' := [(0, .inr 4), (1, .inl x1), (2, .inl v24), (3, .inl x3_4)]) dU_breaksOf_24 rfl rfl (Nat.le_of_ble_eq_true rfl) rfl ?_
      refine ev_iinc (pc := 25) (L' := [(0, .inr 4), (1, .inl x1), (2, .inl v24), (3, .inl (x3_4 + 1))]) (v := (x3_4 + 1)) dU_breaksOf_25 3 rfl (congrArg (HAdd.hAdd _) (by decide)) rfl (Nat.le_of_ble_eq_true rfl) rfl ?_
      refine ev_goto (pc := 28) (tgt := 4) dU_breaksOf_28 (by decide) ?_
      exact ih _ _ _ hs
set_option maxHeartbeats 4000000 in
set_option maxRecDepth 100000 in
theorem cU_breaksOf {h0 : Hp} {x1 : Int32} {post : Int32 → Hp → Prop} (hs : Sat post (fU_breaksOf h0 x1)) : Mt mU_breaksOf 3 [.inr 4, .inl x1] h0 post := by
  refine mt_body (L := [(0, .inr 4), (1, .inl x1)]) (by decide +kernel) (Nat.le_of_ble_eq_true rfl) rfl ?_
  refine ev_iconst (pc := 0) (v := 0) dU_breaksOf_0 (by decide) ?_
  refine ev_istore_n (pc := 1) (L' := [(0, .inr 4), (1, .inl x1), (2, .inl 0)]) dU_breaksOf_1 rfl rfl (Nat.le_of_ble_eq_true rfl) rfl ?_
  refine ev_iconst (pc := 2) (v := 0) dU_breaksOf_2 (by decide) ?_
  refine ev_istore_n (pc := 3) (L' := [(0, .inr 4), (1, .inl x1), (2, .inl 0), (3, .inl 0)]) dU_breaksOf_3 rfl rfl (Nat.le_of_ble_eq_true rfl) rfl ?_
  exact cU_breaksOf_L4  _ _ _ _ hs
set_option maxHeartbeats 4000000 in
set_option maxRecDepth 100000 in
theorem cU_areInverted {h0 : Hp} {x1 : Int32} {x2 : Int32} {post : Int32 → Hp → Prop} (hs : Sat post (fU_areInverted h0 x1 x2)) : Mt mU_areInverted 1 [.inr 4, .inl x1, .inl x2] h0 post := by
  refine mt_body (L := [(0, .inr 4), (1, .inl x1), (2, .inl x2)]) (by decide +kernel) (Nat.le_of_ble_eq_true rfl) rfl ?_
  refine ev_aload_n (pc := 0) dU_areInverted_0 0 rfl rfl ?_
  refine ev_getR (pc := 1) dU_areInverted_1 lU_15 rfl rfl ?_
  refine ev_iload_n (pc := 4) dU_areInverted_4 1 rfl rfl ?_
  refine ev_bipush (pc := 5) (v := 6) dU_areInverted_5 (by decide) ?_
  refine ev_callV (pc := 7) (As := [.inl x1, .inl 6]) (S := []) (d2 := 0) dU_areInverted_7 vU_38 zT_copyFact rfl rfl rfl rfl (Nat.le_of_ble_eq_true rfl) (Nat.le_of_ble_eq_true rfl) rfl rfl (fun p1 hz => cT_copyFact hz) hs (fun r7 h7 hs => ?_)
  refine ev_istore_n (pc := 10) (L' := [(0, .inr 4), (1, .inl x1), (2, .inl x2), (3, .inl r7)]) dU_areInverted_10 rfl rfl (Nat.le_of_ble_eq_true rfl) rfl ?_
  refine ev_aload_n (pc := 11) dU_areInverted_11 0 rfl rfl ?_
  refine ev_getR (pc := 12) dU_areInverted_12 lU_15 rfl rfl ?_
  refine ev_iload_n (pc := 15) dU_areInverted_15 2 rfl rfl ?_
  refine ev_bipush (pc := 16) (v := 6) dU_areInverted_16 (by decide) ?_
  refine ev_callV (pc := 18) (As := [.inl x2, .inl 6]) (S := []) (d2 := 0) dU_areInverted_18 vU_38 zT_copyFact rfl rfl rfl rfl (Nat.le_of_ble_eq_true rfl) (Nat.le_of_ble_eq_true rfl) rfl rfl (fun p1 hz => cT_copyFact hz) hs (fun r18 h18 hs => ?_)
  refine ev_istore (pc := 21) (L' := [(0, .inr 4), (1, .inl x1), (2, .inl x2), (3, .inl r7), (4, .inl r18)]) dU_areInverted_21 rfl (Nat.le_of_ble_eq_true rfl) rfl ?_
  refine ev_aload_n (pc := 23) dU_areInverted_23 0 rfl rfl ?_
  refine ev_getR (pc := 24) dU_areInverted_24 lU_15 rfl rfl ?_
  refine ev_iload_n (pc := 27) dU_areInverted_27 1 rfl rfl ?_
  refine ev_iconst (pc := 28) (v := 5) dU_areInverted_28 (by decide) ?_
  refine ev_callV (pc := 29) (As := [.inl x1, .inl 5]) (S := []) (d2 := 0) dU_areInverted_29 vU_38 zT_copyFact rfl rfl rfl rfl (Nat.le_of_ble_eq_true rfl) (Nat.le_of_ble_eq_true rfl) rfl rfl (fun p1 hz => cT_copyFact hz) hs (fun r29 h29 hs => ?_)
  refine ev_aload_n (pc := 32) dU_areInverted_32 0 rfl rfl ?_
  refine ev_getR (pc := 33) dU_areInverted_33 lU_15 rfl rfl ?_
  refine ev_iload_n (pc := 36) dU_areInverted_36 2 rfl rfl ?_
  refine ev_iconst (pc := 37) (v := 5) dU_areInverted_37 (by decide) ?_
  refine ev_callV (pc := 38) (As := [.inl x2, .inl 5]) (S := [.inl r29]) (d2 := 0) dU_areInverted_38 vU_38 zT_copyFact rfl rfl rfl rfl (Nat.le_of_ble_eq_true rfl) (Nat.le_of_ble_eq_true rfl) rfl rfl (fun p1 hz => cT_copyFact hz) hs (fun r38 h38 hs => ?_)
  refine ev_icmp_eq (pc := 41) (tgt := 60) dU_areInverted_41 (by decide) hs (fun hs => ?_) (fun hs => ?_)
  · refine ev_iconst (pc := 60) (v := 0) dU_areInverted_60 (by decide) ?_
    exact ev_zret rfl dU_areInverted_61 hs
  · refine ev_iload (pc := 44) dU_areInverted_44 4 rfl ?_
    refine ev_iconst (pc := 46) (v := (-1)) dU_areInverted_46 (by decide) ?_
    refine ev_icmp_eq (pc := 47) (tgt := 60) dU_areInverted_47 (by decide) hs (fun hs => ?_) (fun hs => ?_)
    · refine ev_iconst (pc := 60) (v := 0) dU_areInverted_60 (by decide) ?_
      exact ev_zret rfl dU_areInverted_61 hs
    · refine ev_iload_n (pc := 50) dU_areInverted_50 3 rfl rfl ?_
      refine ev_iload (pc := 51) dU_areInverted_51 4 rfl ?_
      refine ev_icmp_le (pc := 53) (tgt := 60) dU_areInverted_53 (by decide) hs (fun hs => ?_) (fun hs => ?_)
      · refine ev_iconst (pc := 60) (v := 0) dU_areInverted_60 (by decide) ?_
        exact ev_zret rfl dU_areInverted_61 hs
      · refine ev_iconst (pc := 56) (v := 1) dU_areInverted_56 (by decide) ?_
        refine ev_goto (pc := 57) (tgt := 61) dU_areInverted_57 (by decide) ?_
        exact ev_zret rfl dU_areInverted_61 hs
set_option maxHeartbeats 4000000 in
set_option maxRecDepth 100000 in
theorem cU_invertedInLine_L12 {k47 : Int32 → Hp → RO} {x1 : Int32} {x3 : Int32} {post : Int32 → Hp → Prop} (hk47 : ∀ (y2 : Int32) (h : Hp), Sat post (k47 y2 h) → Ev mU_invertedInLine 2 47 [(0, .inr 4), (1, .inl x1), (2, .inl y2), (3, .inl x3)] [] h post) : ∀ (n : Nat) (x2_12 : Int32) (x4_12 : Int32) (h12 : Hp), Sat post (fU_invertedInLine_L12 k47 x1 x3 n x2_12 x4_12 h12) → Ev mU_invertedInLine 2 12 [(0, .inr 4), (1, .inl x1), (2, .inl x2_12), (3, .inl x3), (4, .inl x4_12)] [] h12 post := by
  intro n
  induction n with
  | zero =>
    intro x2_12 x4_12 h12 hs
    exact False.elim hs
  | succ n ih =>
    intro x2_12 x4_12 h12 hs
    refine ev_iload (pc := 12) dU_invertedInLine_12 4 rfl ?_
    refine ev_iload_n (pc := 14) dU_invertedInLine_14 3 rfl rfl ?_
    refine ev_icmp_ge (pc := 15) (tgt := 47) dU_invertedInLine_15 (by decide) hs (fun hs => ?_) (fun hs => ?_)
    · refine ev_sub [(0, .inr 4), (1, .inl x1), (2, .inl x2_12), (3, .inl x3)] [0, 1, 2, 3] rfl ?_
      exact hk47 _ _ hs
    · refine ev_aload_n (pc := 18) dU_invertedInLine_18 0 rfl rfl ?_
      refine ev_aload_n (pc := 19) dU_invertedInLine_19 0 rfl rfl ?_
      refine ev_getR (pc := 20) dU_invertedInLine_20 lU_9 rfl rfl ?_
      refine ev_iload (pc := 23) dU_invertedInLine_23 4 rfl ?_
      refine ev_iald (pc := 25) dU_invertedInLine_25 hs (fun r25 hs => ?_)
      refine ev_aload_n (pc := 26) dU_invertedInLine_26 0 rfl rfl ?_
      refine ev_getR (pc := 27) dU_invertedInLine_27 lU_9 rfl rfl ?_
      refine ev_iload_n (pc := 30) dU_invertedInLine_30 3 rfl rfl ?_
      refine ev_iald (pc := 31) dU_invertedInLine_31 hs (fun r31 hs => ?_)
      refine ev_callV (pc := 32) (As := [.inl r25, .inl r31]) (S := []) (d2 := 1) dU_invertedInLine_32 vU_64 zU_areInverted rfl rfl rfl rfl (Nat.le_of_ble_eq_true rfl) (Nat.le_of_ble_eq_true rfl) rfl rfl (fun p1 hz => cU_areInverted hz) hs (fun r32 h32 hs => ?_)
      refine ev_jn (fun (j : Int32 → Hp → RO) => ∀ (x2_41 : Int32) (h41 : Hp), Sat post (j x2_41 h41) → Ev mU_invertedInLine 2 41 [(0, .inr 4), (1, .inl x1), (2, .inl x2_41), (3, .inl x3), (4, .inl x4_12)] [] h41 post) hs (fun x2_41 h41 hs => ?_) (fun j41 hj41 hs => ?_)
      · refine ev_iinc (pc := 41) (L' := [(0, .inr 4), (1, .inl x1), (2, .inl x2_41), (3, .inl x3), (4, .inl (x4_12 + 1))]) (v := (x4_12 + 1)) dU_invertedInLine_41 4 rfl (congrArg (HAdd.hAdd _) (by decide)) rfl (Nat.le_of_ble_eq_true rfl) rfl ?_
        refine ev_goto (pc := 44) (tgt := 12) dU_invertedInLine_44 (by decide) ?_
        exact ih _ _ _ hs
      refine ev_if_eq (pc := 35) (tgt := 41) dU_invertedInLine_35 (by decide) hs (fun hs => ?_) (fun hs => ?_)
      · exact hj41 _ _ hs
      · refine ev_iinc (pc := 38) (L' := [(0, .inr 4), (1, .inl x1), (2, .inl (x2_12 + 1)), (3, .inl x3), (4, .inl x4_12)]) (v := (x2_12 + 1)) dU_invertedInLine_38 2 rfl (congrArg (HAdd.hAdd _) (by decide)) rfl (Nat.le_of_ble_eq_true rfl) rfl ?_
        exact hj41 _ _ hs
set_option maxHeartbeats 4000000 in
set_option maxRecDepth 100000 in
theorem cU_invertedInLine_L4 {x1 : Int32} {post : Int32 → Hp → Prop}  : ∀ (n : Nat) (x2_4 : Int32) (x3_4 : Int32) (h4 : Hp), Sat post (fU_invertedInLine_L4 x1 n x2_4 x3_4 h4) → Ev mU_invertedInLine 2 4 [(0, .inr 4), (1, .inl x1), (2, .inl x2_4), (3, .inl x3_4)] [] h4 post := by
  intro n
  induction n with
  | zero =>
    intro x2_4 x3_4 h4 hs
    exact False.elim hs
  | succ n ih =>
    intro x2_4 x3_4 h4 hs
    refine ev_iload_n (pc := 4) dU_invertedInLine_4 3 rfl rfl ?_
    refine ev_iload_n (pc := 5) dU_invertedInLine_5 1 rfl rfl ?_
    refine ev_icmp_ge (pc := 6) (tgt := 53) dU_invertedInLine_6 (by decide) hs (fun hs => ?_) (fun hs => ?_)
    · refine ev_iload_n (pc := 53) dU_invertedInLine_53 2 rfl rfl ?_
      exact ev_iret rfl dU_invertedInLine_54 hs
    · refine ev_iconst (pc := 9) (v := 0) dU_invertedInLine_9 (by decide) ?_
      refine ev_istore (pc := 10) (L' := [(0, .inr 4), (1, .inl x1), (2, .inl x2_4), (3, .inl x3_4), (4, .inl 0)]) dU_invertedInLine_10 rfl (Nat.le_of_ble_eq_true rfl) rfl ?_
      refine cU_invertedInLine_L12 (fun x2_47 h47 hs => ?_) _ _ _ _ hs
      refine ev_iinc (pc := 47) (L' := [(0, .inr 4), (1, .inl x1), (2, .inl x2_47), (3, .inl (x3_4 + 1))]) (v := (x3_4 + 1)) dU_invertedInLine_47 3 rfl (congrArg (HAdd.hAdd _) (by decide)) rfl (Nat.le_of_ble_eq_true rfl) rfl ?_
      refine ev_goto (pc := 50) (tgt := 4) dU_invertedInLine_50 (by decide) ?_
      exact ih _ _ _ hs
set_option maxHeartbeats 4000000 in
set_option maxRecDepth 100000 in
theorem cU_invertedInLine {h0 : Hp} {x1 : Int32} {post : Int32 → Hp → Prop} (hs : Sat post (fU_invertedInLine h0 x1)) : Mt mU_invertedInLine 2 [.inr 4, .inl x1] h0 post := by
  refine mt_body (L := [(0, .inr 4), (1, .inl x1)]) (by decide +kernel) (Nat.le_of_ble_eq_true rfl) rfl ?_
  refine ev_iconst (pc := 0) (v := 0) dU_invertedInLine_0 (by decide) ?_
  refine ev_istore_n (pc := 1) (L' := [(0, .inr 4), (1, .inl x1), (2, .inl 0)]) dU_invertedInLine_1 rfl rfl (Nat.le_of_ble_eq_true rfl) rfl ?_
  refine ev_iconst (pc := 2) (v := 1) dU_invertedInLine_2 (by decide) ?_
  refine ev_istore_n (pc := 3) (L' := [(0, .inr 4), (1, .inl x1), (2, .inl 0), (3, .inl 1)]) dU_invertedInLine_3 rfl rfl (Nat.le_of_ble_eq_true rfl) rfl ?_
  exact cU_invertedInLine_L4  _ _ _ _ hs
set_option maxHeartbeats 4000000 in
set_option maxRecDepth 100000 in
theorem cU_invertedPairs_L4  {post : Int32 → Hp → Prop}  : ∀ (n : Nat) (x1_4 : Int32) (x2_4 : Int32) (h4 : Hp), Sat post (fU_invertedPairs_L4 n x1_4 x2_4 h4) → Ev mU_invertedPairs 3 4 [(0, .inr 4), (1, .inl x1_4), (2, .inl x2_4)] [] h4 post := by
  intro n
  induction n with
  | zero =>
    intro x1_4 x2_4 h4 hs
    exact False.elim hs
  | succ n ih =>
    intro x1_4 x2_4 h4 hs
    refine ev_iload_n (pc := 4) dU_invertedPairs_4 2 rfl rfl ?_
    refine ev_aload_n (pc := 5) dU_invertedPairs_5 0 rfl rfl ?_
    refine ev_getR (pc := 6) dU_invertedPairs_6 lU_15 rfl rfl ?_
    refine ev_callV (pc := 9) (As := []) (S := [.inl x2_4]) (d2 := 0) dU_invertedPairs_9 vU_53 zT_places rfl rfl rfl rfl (Nat.le_of_ble_eq_true rfl) (Nat.le_of_ble_eq_true rfl) rfl rfl (fun p1 hz => cT_places hz) hs (fun r9 h9 hs => ?_)
    refine ev_icmp_ge (pc := 12) (tgt := 33) dU_invertedPairs_12 (by decide) hs (fun hs => ?_) (fun hs => ?_)
    · refine ev_iload_n (pc := 33) dU_invertedPairs_33 1 rfl rfl ?_
      exact ev_iret rfl dU_invertedPairs_34 hs
    · refine ev_iload_n (pc := 15) dU_invertedPairs_15 1 rfl rfl ?_
      refine ev_aload_n (pc := 16) dU_invertedPairs_16 0 rfl rfl ?_
      refine ev_aload_n (pc := 17) dU_invertedPairs_17 0 rfl rfl ?_
      refine ev_iload_n (pc := 18) dU_invertedPairs_18 2 rfl rfl ?_
      refine ev_callV (pc := 19) (As := [.inl x2_4]) (S := [.inr 4, .inl x1_4]) (d2 := 2) dU_invertedPairs_19 vU_57 zU_lineUp rfl rfl rfl rfl (Nat.le_of_ble_eq_true rfl) (Nat.le_of_ble_eq_true rfl) rfl rfl (fun p1 hz => cU_lineUp hz) hs (fun r19 h19 hs => ?_)
      refine ev_callV (pc := 22) (As := [.inl r19]) (S := [.inl x1_4]) (d2 := 2) dU_invertedPairs_22 vU_61 zU_invertedInLine rfl rfl rfl rfl (Nat.le_of_ble_eq_true rfl) (Nat.le_of_ble_eq_true rfl) rfl rfl (fun p1 hz => cU_invertedInLine hz) hs (fun r22 h22 hs => ?_)
      refine ev_iadd (pc := 25) dU_invertedPairs_25 ?_
      refine ev_bnd hs (fun v26 hs => ?_)
      refine ev_istore_n (pc := 26) (L' := [(0, .inr 4), (1, .inl v26), (2, .inl x2_4)]) dU_invertedPairs_26 rfl rfl (Nat.le_of_ble_eq_true rfl) rfl ?_
      refine ev_iinc (pc := 27) (L' := [(0, .inr 4), (1, .inl v26), (2, .inl (x2_4 + 1))]) (v := (x2_4 + 1)) dU_invertedPairs_27 2 rfl (congrArg (HAdd.hAdd _) (by decide)) rfl (Nat.le_of_ble_eq_true rfl) rfl ?_
      refine ev_goto (pc := 30) (tgt := 4) dU_invertedPairs_30 (by decide) ?_
      exact ih _ _ _ hs
set_option maxHeartbeats 4000000 in
set_option maxRecDepth 100000 in
theorem cU_invertedPairs {h0 : Hp}  {post : Int32 → Hp → Prop} (hs : Sat post (fU_invertedPairs h0 )) : Mt mU_invertedPairs 3 [.inr 4] h0 post := by
  refine mt_body (L := [(0, .inr 4)]) (by decide +kernel) (Nat.le_of_ble_eq_true rfl) rfl ?_
  refine ev_iconst (pc := 0) (v := 0) dU_invertedPairs_0 (by decide) ?_
  refine ev_istore_n (pc := 1) (L' := [(0, .inr 4), (1, .inl 0)]) dU_invertedPairs_1 rfl rfl (Nat.le_of_ble_eq_true rfl) rfl ?_
  refine ev_iconst (pc := 2) (v := 0) dU_invertedPairs_2 (by decide) ?_
  refine ev_istore_n (pc := 3) (L' := [(0, .inr 4), (1, .inl 0), (2, .inl 0)]) dU_invertedPairs_3 rfl rfl (Nat.le_of_ble_eq_true rfl) rfl ?_
  exact cU_invertedPairs_L4  _ _ _ _ hs
set_option maxHeartbeats 4000000 in
set_option maxRecDepth 100000 in
theorem cU_placesWith_L4 {x1 : Int32} {post : Int32 → Hp → Prop}  : ∀ (n : Nat) (x2_4 : Int32) (x3_4 : Int32) (h4 : Hp), Sat post (fU_placesWith_L4 x1 n x2_4 x3_4 h4) → Ev mU_placesWith 3 4 [(0, .inr 4), (1, .inl x1), (2, .inl x2_4), (3, .inl x3_4)] [] h4 post := by
  intro n
  induction n with
  | zero =>
    intro x2_4 x3_4 h4 hs
    exact False.elim hs
  | succ n ih =>
    intro x2_4 x3_4 h4 hs
    refine ev_iload_n (pc := 4) dU_placesWith_4 3 rfl rfl ?_
    refine ev_aload_n (pc := 5) dU_placesWith_5 0 rfl rfl ?_
    refine ev_getR (pc := 6) dU_placesWith_6 lU_15 rfl rfl ?_
    refine ev_callV (pc := 9) (As := []) (S := [.inl x3_4]) (d2 := 0) dU_placesWith_9 vU_53 zT_places rfl rfl rfl rfl (Nat.le_of_ble_eq_true rfl) (Nat.le_of_ble_eq_true rfl) rfl rfl (fun p1 hz => cT_places hz) hs (fun r9 h9 hs => ?_)
    refine ev_icmp_ge (pc := 12) (tgt := 33) dU_placesWith_12 (by decide) hs (fun hs => ?_) (fun hs => ?_)
    · refine ev_iload_n (pc := 33) dU_placesWith_33 2 rfl rfl ?_
      exact ev_iret rfl dU_placesWith_34 hs
    · refine ev_aload_n (pc := 15) dU_placesWith_15 0 rfl rfl ?_
      refine ev_iload_n (pc := 16) dU_placesWith_16 3 rfl rfl ?_
      refine ev_callV (pc := 17) (As := [.inl x3_4]) (S := []) (d2 := 2) dU_placesWith_17 vU_57 zU_lineUp rfl rfl rfl rfl (Nat.le_of_ble_eq_true rfl) (Nat.le_of_ble_eq_true rfl) rfl rfl (fun p1 hz => cU_lineUp hz) hs (fun r17 h17 hs => ?_)
      refine ev_iload_n (pc := 20) dU_placesWith_20 1 rfl rfl ?_
      refine ev_jn (fun (j : Int32 → Hp → RO) => ∀ (x2_27 : Int32) (h27 : Hp), Sat post (j x2_27 h27) → Ev mU_placesWith 3 27 [(0, .inr 4), (1, .inl x1), (2, .inl x2_27), (3, .inl x3_4)] [] h27 post) hs (fun x2_27 h27 hs => ?_) (fun j27 hj27 hs => ?_)
      · refine ev_iinc (pc := 27) (L' := [(0, .inr 4), (1, .inl x1), (2, .inl x2_27), (3, .inl (x3_4 + 1))]) (v := (x3_4 + 1)) dU_placesWith_27 3 rfl (congrArg (HAdd.hAdd _) (by decide)) rfl (Nat.le_of_ble_eq_true rfl) rfl ?_
        refine ev_goto (pc := 30) (tgt := 4) dU_placesWith_30 (by decide) ?_
        exact ih _ _ _ hs
      refine ev_icmp_ne (pc := 21) (tgt := 27) dU_placesWith_21 (by decide) hs (fun hs => ?_) (fun hs => ?_)
      · exact hj27 _ _ hs
      · refine ev_iinc (pc := 24) (L' := [(0, .inr 4), (1, .inl x1), (2, .inl (x2_4 + 1)), (3, .inl x3_4)]) (v := (x2_4 + 1)) dU_placesWith_24 2 rfl (congrArg (HAdd.hAdd _) (by decide)) rfl (Nat.le_of_ble_eq_true rfl) rfl ?_
        exact hj27 _ _ hs
set_option maxHeartbeats 4000000 in
set_option maxRecDepth 100000 in
theorem cU_placesWith {h0 : Hp} {x1 : Int32} {post : Int32 → Hp → Prop} (hs : Sat post (fU_placesWith h0 x1)) : Mt mU_placesWith 3 [.inr 4, .inl x1] h0 post := by
  refine mt_body (L := [(0, .inr 4), (1, .inl x1)]) (by decide +kernel) (Nat.le_of_ble_eq_true rfl) rfl ?_
  refine ev_iconst (pc := 0) (v := 0) dU_placesWith_0 (by decide) ?_
  refine ev_istore_n (pc := 1) (L' := [(0, .inr 4), (1, .inl x1), (2, .inl 0)]) dU_placesWith_1 rfl rfl (Nat.le_of_ble_eq_true rfl) rfl ?_
  refine ev_iconst (pc := 2) (v := 0) dU_placesWith_2 (by decide) ?_
  refine ev_istore_n (pc := 3) (L' := [(0, .inr 4), (1, .inl x1), (2, .inl 0), (3, .inl 0)]) dU_placesWith_3 rfl rfl (Nat.le_of_ble_eq_true rfl) rfl ?_
  exact cU_placesWith_L4  _ _ _ _ hs
set_option maxHeartbeats 4000000 in
set_option maxRecDepth 100000 in
theorem cU_copies_L4  {post : Int32 → Hp → Prop}  : ∀ (n : Nat) (x1_4 : Int32) (x2_4 : Int32) (h4 : Hp), Sat post (fU_copies_L4 n x1_4 x2_4 h4) → Ev mU_copies 0 4 [(0, .inr 4), (1, .inl x1_4), (2, .inl x2_4)] [] h4 post := by
  intro n
  induction n with
  | zero =>
    intro x1_4 x2_4 h4 hs
    exact False.elim hs
  | succ n ih =>
    intro x1_4 x2_4 h4 hs
    refine ev_iload_n (pc := 4) dU_copies_4 2 rfl rfl ?_
    refine ev_aload_n (pc := 5) dU_copies_5 0 rfl rfl ?_
    refine ev_getR (pc := 6) dU_copies_6 lU_15 rfl rfl ?_
    refine ev_getI (pc := 9) dU_copies_9 lU_23 rfl rfl ?_
    refine ev_icmp_ge (pc := 12) (tgt := 37) dU_copies_12 (by decide) hs (fun hs => ?_) (fun hs => ?_)
    · refine ev_iload_n (pc := 37) dU_copies_37 1 rfl rfl ?_
      exact ev_iret rfl dU_copies_38 hs
    · refine ev_aload_n (pc := 15) dU_copies_15 0 rfl rfl ?_
      refine ev_getR (pc := 16) dU_copies_16 lU_19 rfl rfl ?_
      refine ev_getR (pc := 19) dU_copies_19 lU_29 rfl rfl ?_
      refine ev_iload_n (pc := 22) dU_copies_22 2 rfl rfl ?_
      refine ev_iald (pc := 23) dU_copies_23 hs (fun r23 hs => ?_)
      refine ev_iconst (pc := 24) (v := (-1)) dU_copies_24 (by decide) ?_
      refine ev_jn (fun (j : Int32 → Hp → RO) => ∀ (x1_31 : Int32) (h31 : Hp), Sat post (j x1_31 h31) → Ev mU_copies 0 31 [(0, .inr 4), (1, .inl x1_31), (2, .inl x2_4)] [] h31 post) hs (fun x1_31 h31 hs => ?_) (fun j31 hj31 hs => ?_)
      · refine ev_iinc (pc := 31) (L' := [(0, .inr 4), (1, .inl x1_31), (2, .inl (x2_4 + 1))]) (v := (x2_4 + 1)) dU_copies_31 2 rfl (congrArg (HAdd.hAdd _) (by decide)) rfl (Nat.le_of_ble_eq_true rfl) rfl ?_
        refine ev_goto (pc := 34) (tgt := 4) dU_copies_34 (by decide) ?_
        exact ih _ _ _ hs
      refine ev_icmp_eq (pc := 25) (tgt := 31) dU_copies_25 (by decide) hs (fun hs => ?_) (fun hs => ?_)
      · exact hj31 _ _ hs
      · refine ev_iinc (pc := 28) (L' := [(0, .inr 4), (1, .inl (x1_4 + 1)), (2, .inl x2_4)]) (v := (x1_4 + 1)) dU_copies_28 1 rfl (congrArg (HAdd.hAdd _) (by decide)) rfl (Nat.le_of_ble_eq_true rfl) rfl ?_
        exact hj31 _ _ hs
set_option maxHeartbeats 4000000 in
set_option maxRecDepth 100000 in
theorem cU_copies {h0 : Hp}  {post : Int32 → Hp → Prop} (hs : Sat post (fU_copies h0 )) : Mt mU_copies 0 [.inr 4] h0 post := by
  refine mt_body (L := [(0, .inr 4)]) (by decide +kernel) (Nat.le_of_ble_eq_true rfl) rfl ?_
  refine ev_iconst (pc := 0) (v := 0) dU_copies_0 (by decide) ?_
  refine ev_istore_n (pc := 1) (L' := [(0, .inr 4), (1, .inl 0)]) dU_copies_1 rfl rfl (Nat.le_of_ble_eq_true rfl) rfl ?_
  refine ev_iconst (pc := 2) (v := 0) dU_copies_2 (by decide) ?_
  refine ev_istore_n (pc := 3) (L' := [(0, .inr 4), (1, .inl 0), (2, .inl 0)]) dU_copies_3 rfl rfl (Nat.le_of_ble_eq_true rfl) rfl ?_
  exact cU_copies_L4  _ _ _ _ hs
