/-! CERTIFICATES: the methods do what their functions say: printed by a program of mine -/
set_option maxHeartbeats 4000000 in
set_option maxRecDepth 100000 in
theorem cX_sheet {h0 : Hp} {x1 : Int32} {x2 : Int32} {post : Int32 → Hp → Prop} (hs : Sat post (fX_sheet h0 x1 x2)) : Mt mX_sheet 1 [.inr 0, .inl x1, .inl x2] h0 post := by
  refine mt_body (L := [(0, .inr 0), (1, .inl x1), (2, .inl x2)]) (by decide +kernel) (Nat.le_of_ble_eq_true rfl) rfl ?_
  refine ev_iload_n (pc := 0) dX_sheet_0 1 rfl rfl ?_
  refine ev_iconst (pc := 1) (v := 1) dX_sheet_1 (by decide) ?_
  refine ev_iconst (pc := 2) (v := 3) dX_sheet_2 (by decide) ?_
  refine ev_callS (pc := 3) (As := [.inl x1, .inl 1, .inl 3]) (S := []) (d2 := 0) dX_sheet_3 (Or.inl vX_41) zX_isWithin rfl (Nat.le_of_ble_eq_true rfl) (Nat.le_of_ble_eq_true rfl) rfl rfl (fun p1 hz => cX_isWithin hz) hs (fun r3 h3 hs => ?_)
  refine ev_if_eq (pc := 6) (tgt := 26) dX_sheet_6 (by decide) hs (fun hs => ?_) (fun hs => ?_)
  · refine ev_iconst (pc := 26) (v := (-1)) dX_sheet_26 (by decide) ?_
    exact ev_iret rfl dX_sheet_27 hs
  · refine ev_iload_n (pc := 9) dX_sheet_9 2 rfl rfl ?_
    refine ev_iconst (pc := 10) (v := 1) dX_sheet_10 (by decide) ?_
    refine ev_iconst (pc := 11) (v := 4) dX_sheet_11 (by decide) ?_
    refine ev_callS (pc := 12) (As := [.inl x2, .inl 1, .inl 4]) (S := []) (d2 := 0) dX_sheet_12 (Or.inl vX_41) zX_isWithin rfl (Nat.le_of_ble_eq_true rfl) (Nat.le_of_ble_eq_true rfl) rfl rfl (fun p1 hz => cX_isWithin hz) hs (fun r12 h12 hs => ?_)
    refine ev_if_eq (pc := 15) (tgt := 26) dX_sheet_15 (by decide) hs (fun hs => ?_) (fun hs => ?_)
    · refine ev_iconst (pc := 26) (v := (-1)) dX_sheet_26 (by decide) ?_
      exact ev_iret rfl dX_sheet_27 hs
    · refine ev_iload_n (pc := 18) dX_sheet_18 1 rfl rfl ?_
      refine ev_iload_n (pc := 19) dX_sheet_19 2 rfl rfl ?_
      refine ev_imul (pc := 20) dX_sheet_20 ?_
      refine ev_bipush (pc := 21) (v := 9) dX_sheet_21 (by decide) ?_
      refine ev_icmp_le (pc := 23) (tgt := 28) dX_sheet_23 (by decide) hs (fun hs => ?_) (fun hs => ?_)
      · refine ev_aload_n (pc := 28) dX_sheet_28 0 rfl rfl ?_
        refine ev_getR (pc := 29) dX_sheet_29 lX_12 rfl rfl ?_
        refine ev_iload_n (pc := 32) dX_sheet_32 1 rfl rfl ?_
        refine ev_iload_n (pc := 33) dX_sheet_33 2 rfl rfl ?_
        refine ev_callVv (pc := 34) (As := [.inl x1, .inl x2]) (S := []) (d2 := 0) dX_sheet_34 vX_45 zT_startSheet rfl rfl rfl rfl (Nat.le_of_ble_eq_true rfl) (Nat.le_of_ble_eq_true rfl) rfl rfl (fun p1 hz => cT_startSheet hz) hs (fun r34 h34 hs => ?_)
        refine ev_aload_n (pc := 37) dX_sheet_37 0 rfl rfl ?_
        refine ev_getR (pc := 38) dX_sheet_38 lX_24 rfl rfl ?_
        refine ev_callVv (pc := 41) (As := []) (S := []) (d2 := 0) dX_sheet_41 vX_49 zS_forget rfl rfl rfl rfl (Nat.le_of_ble_eq_true rfl) (Nat.le_of_ble_eq_true rfl) rfl rfl (fun p1 hz => cS_forget hz) hs (fun r41 h41 hs => ?_)
        refine ev_aload_n (pc := 44) dX_sheet_44 0 rfl rfl ?_
        refine ev_getR (pc := 45) dX_sheet_45 lX_12 rfl rfl ?_
        refine ev_callV (pc := 48) (As := []) (S := []) (d2 := 0) dX_sheet_48 vX_52 zT_places rfl rfl rfl rfl (Nat.le_of_ble_eq_true rfl) (Nat.le_of_ble_eq_true rfl) rfl rfl (fun p1 hz => cT_places hz) hs (fun r48 h48 hs => ?_)
        exact ev_iret rfl dX_sheet_51 hs
      · refine ev_iconst (pc := 26) (v := (-1)) dX_sheet_26 (by decide) ?_
        exact ev_iret rfl dX_sheet_27 hs
set_option maxHeartbeats 4000000 in
set_option maxRecDepth 100000 in
theorem cX_piece {h0 : Hp} {x1 : Int32} {x2 : Int32} {x3 : Int32} {post : Int32 → Hp → Prop} (hs : Sat post (fX_piece h0 x1 x2 x3)) : Mt mX_piece 2 [.inr 0, .inl x1, .inl x2, .inl x3] h0 post := by
  refine mt_body (L := [(0, .inr 0), (1, .inl x1), (2, .inl x2), (3, .inl x3)]) (by decide +kernel) (Nat.le_of_ble_eq_true rfl) rfl ?_
  refine ev_iload_n (pc := 0) dX_piece_0 1 rfl rfl ?_
  refine ev_iconst (pc := 1) (v := 1) dX_piece_1 (by decide) ?_
  refine ev_iconst (pc := 2) (v := 2) dX_piece_2 (by decide) ?_
  refine ev_callS (pc := 3) (As := [.inl x1, .inl 1, .inl 2]) (S := []) (d2 := 0) dX_piece_3 (Or.inl vX_41) zX_isWithin rfl (Nat.le_of_ble_eq_true rfl) (Nat.le_of_ble_eq_true rfl) rfl rfl (fun p1 hz => cX_isWithin hz) hs (fun r3 h3 hs => ?_)
  refine ev_if_eq (pc := 6) (tgt := 28) dX_piece_6 (by decide) hs (fun hs => ?_) (fun hs => ?_)
  · refine ev_iconst (pc := 28) (v := (-1)) dX_piece_28 (by decide) ?_
    exact ev_iret rfl dX_piece_29 hs
  · refine ev_iload_n (pc := 9) dX_piece_9 2 rfl rfl ?_
    refine ev_iconst (pc := 10) (v := 1) dX_piece_10 (by decide) ?_
    refine ev_iconst (pc := 11) (v := 3) dX_piece_11 (by decide) ?_
    refine ev_callS (pc := 12) (As := [.inl x2, .inl 1, .inl 3]) (S := []) (d2 := 0) dX_piece_12 (Or.inl vX_41) zX_isWithin rfl (Nat.le_of_ble_eq_true rfl) (Nat.le_of_ble_eq_true rfl) rfl rfl (fun p1 hz => cX_isWithin hz) hs (fun r12 h12 hs => ?_)
    refine ev_if_eq (pc := 15) (tgt := 28) dX_piece_15 (by decide) hs (fun hs => ?_) (fun hs => ?_)
    · refine ev_iconst (pc := 28) (v := (-1)) dX_piece_28 (by decide) ?_
      exact ev_iret rfl dX_piece_29 hs
    · refine ev_iload_n (pc := 18) dX_piece_18 3 rfl rfl ?_
      refine ev_iconst (pc := 19) (v := 0) dX_piece_19 (by decide) ?_
      refine ev_bipush (pc := 20) (v := 15) dX_piece_20 (by decide) ?_
      refine ev_callS (pc := 22) (As := [.inl x3, .inl 0, .inl 15]) (S := []) (d2 := 0) dX_piece_22 (Or.inl vX_41) zX_isWithin rfl (Nat.le_of_ble_eq_true rfl) (Nat.le_of_ble_eq_true rfl) rfl rfl (fun p1 hz => cX_isWithin hz) hs (fun r22 h22 hs => ?_)
      refine ev_if_ne (pc := 25) (tgt := 30) dX_piece_25 (by decide) hs (fun hs => ?_) (fun hs => ?_)
      · refine ev_aload_n (pc := 30) dX_piece_30 0 rfl rfl ?_
        refine ev_getR (pc := 31) dX_piece_31 lX_12 rfl rfl ?_
        refine ev_getI (pc := 34) dX_piece_34 lX_56 rfl rfl ?_
        refine ev_iconst (pc := 37) (v := 5) dX_piece_37 (by decide) ?_
        refine ev_icmp_lt (pc := 38) (tgt := 44) dX_piece_38 (by decide) hs (fun hs => ?_) (fun hs => ?_)
        · refine ev_aload_n (pc := 44) dX_piece_44 0 rfl rfl ?_
          refine ev_getR (pc := 45) dX_piece_45 lX_24 rfl rfl ?_
          refine ev_callVv (pc := 48) (As := []) (S := []) (d2 := 0) dX_piece_48 vX_49 zS_forget rfl rfl rfl rfl (Nat.le_of_ble_eq_true rfl) (Nat.le_of_ble_eq_true rfl) rfl rfl (fun p1 hz => cS_forget hz) hs (fun r48 h48 hs => ?_)
          refine ev_aload_n (pc := 51) dX_piece_51 0 rfl rfl ?_
          refine ev_getR (pc := 52) dX_piece_52 lX_12 rfl rfl ?_
          refine ev_iload_n (pc := 55) dX_piece_55 1 rfl rfl ?_
          refine ev_iload_n (pc := 56) dX_piece_56 2 rfl rfl ?_
          refine ev_iload_n (pc := 57) dX_piece_57 3 rfl rfl ?_
          refine ev_callV (pc := 58) (As := [.inl x1, .inl x2, .inl x3]) (S := []) (d2 := 1) dX_piece_58 vX_60 zT_addPiece rfl rfl rfl rfl (Nat.le_of_ble_eq_true rfl) (Nat.le_of_ble_eq_true rfl) rfl rfl (fun p1 hz => cT_addPiece hz) hs (fun r58 h58 hs => ?_)
          exact ev_iret rfl dX_piece_61 hs
        · refine ev_bipush (pc := 41) (v := (-2)) dX_piece_41 (by decide) ?_
          exact ev_iret rfl dX_piece_43 hs
      · refine ev_iconst (pc := 28) (v := (-1)) dX_piece_28 (by decide) ?_
        exact ev_iret rfl dX_piece_29 hs
set_option maxHeartbeats 4000000 in
set_option maxRecDepth 100000 in
theorem cX_drop {h0 : Hp}  {post : Int32 → Hp → Prop} (hs : Sat post (fX_drop h0 )) : Mt mX_drop 2 [.inr 0] h0 post := by
  refine mt_body (L := [(0, .inr 0)]) (by decide +kernel) (Nat.le_of_ble_eq_true rfl) rfl ?_
  refine ev_aload_n (pc := 0) dX_drop_0 0 rfl rfl ?_
  refine ev_getR (pc := 1) dX_drop_1 lX_12 rfl rfl ?_
  refine ev_getI (pc := 4) dX_drop_4 lX_56 rfl rfl ?_
  refine ev_if_ne (pc := 7) (tgt := 13) dX_drop_7 (by decide) hs (fun hs => ?_) (fun hs => ?_)
  · refine ev_aload_n (pc := 13) dX_drop_13 0 rfl rfl ?_
    refine ev_getR (pc := 14) dX_drop_14 lX_24 rfl rfl ?_
    refine ev_callVv (pc := 17) (As := []) (S := []) (d2 := 0) dX_drop_17 vX_49 zS_forget rfl rfl rfl rfl (Nat.le_of_ble_eq_true rfl) (Nat.le_of_ble_eq_true rfl) rfl rfl (fun p1 hz => cS_forget hz) hs (fun r17 h17 hs => ?_)
    refine ev_aload_n (pc := 20) dX_drop_20 0 rfl rfl ?_
    refine ev_getR (pc := 21) dX_drop_21 lX_12 rfl rfl ?_
    refine ev_callV (pc := 24) (As := []) (S := []) (d2 := 1) dX_drop_24 vX_64 zT_dropPiece rfl rfl rfl rfl (Nat.le_of_ble_eq_true rfl) (Nat.le_of_ble_eq_true rfl) rfl rfl (fun p1 hz => cT_dropPiece hz) hs (fun r24 h24 hs => ?_)
    exact ev_iret rfl dX_drop_27 hs
  · refine ev_bipush (pc := 10) (v := (-4)) dX_drop_10 (by decide) ?_
    exact ev_iret rfl dX_drop_12 hs
set_option maxHeartbeats 4000000 in
set_option maxRecDepth 100000 in
theorem cX_mark {h0 : Hp} {x1 : Int32} {x2 : Int32} {x3 : Int32} {post : Int32 → Hp → Prop} (hs : Sat post (fX_mark h0 x1 x2 x3)) : Mt mX_mark 2 [.inr 0, .inl x1, .inl x2, .inl x3] h0 post := by
  refine mt_body (L := [(0, .inr 0), (1, .inl x1), (2, .inl x2), (3, .inl x3)]) (by decide +kernel) (Nat.le_of_ble_eq_true rfl) rfl ?_
  refine ev_aload_n (pc := 0) dX_mark_0 0 rfl rfl ?_
  refine ev_getR (pc := 1) dX_mark_1 lX_12 rfl rfl ?_
  refine ev_iload_n (pc := 4) dX_mark_4 1 rfl rfl ?_
  refine ev_callV (pc := 5) (As := [.inl x1]) (S := []) (d2 := 1) dX_mark_5 vX_67 zT_hasCopy rfl rfl rfl rfl (Nat.le_of_ble_eq_true rfl) (Nat.le_of_ble_eq_true rfl) rfl rfl (fun p1 hz => cT_hasCopy hz) hs (fun r5 h5 hs => ?_)
  refine ev_if_eq (pc := 8) (tgt := 27) dX_mark_8 (by decide) hs (fun hs => ?_) (fun hs => ?_)
  · refine ev_iconst (pc := 27) (v := (-1)) dX_mark_27 (by decide) ?_
    exact ev_iret rfl dX_mark_28 hs
  · refine ev_iload_n (pc := 11) dX_mark_11 2 rfl rfl ?_
    refine ev_callS (pc := 12) (As := [.inl x2]) (S := []) (d2 := 1) dX_mark_12 (Or.inl vX_71) zX_isMark rfl (Nat.le_of_ble_eq_true rfl) (Nat.le_of_ble_eq_true rfl) rfl rfl (fun p1 hz => cX_isMark hz) hs (fun r12 h12 hs => ?_)
    refine ev_if_eq (pc := 15) (tgt := 27) dX_mark_15 (by decide) hs (fun hs => ?_) (fun hs => ?_)
    · refine ev_iconst (pc := 27) (v := (-1)) dX_mark_27 (by decide) ?_
      exact ev_iret rfl dX_mark_28 hs
    · refine ev_iload_n (pc := 18) dX_mark_18 3 rfl rfl ?_
      refine ev_iconst (pc := 19) (v := 0) dX_mark_19 (by decide) ?_
      refine ev_iconst (pc := 20) (v := 2) dX_mark_20 (by decide) ?_
      refine ev_callS (pc := 21) (As := [.inl x3, .inl 0, .inl 2]) (S := []) (d2 := 0) dX_mark_21 (Or.inl vX_41) zX_isWithin rfl (Nat.le_of_ble_eq_true rfl) (Nat.le_of_ble_eq_true rfl) rfl rfl (fun p1 hz => cX_isWithin hz) hs (fun r21 h21 hs => ?_)
      refine ev_if_ne (pc := 24) (tgt := 29) dX_mark_24 (by decide) hs (fun hs => ?_) (fun hs => ?_)
      · refine ev_aload_n (pc := 29) dX_mark_29 0 rfl rfl ?_
        refine ev_getR (pc := 30) dX_mark_30 lX_12 rfl rfl ?_
        refine ev_iload_n (pc := 33) dX_mark_33 1 rfl rfl ?_
        refine ev_iload_n (pc := 34) dX_mark_34 2 rfl rfl ?_
        refine ev_callV (pc := 35) (As := [.inl x1, .inl x2]) (S := []) (d2 := 1) dX_mark_35 vX_74 zT_markOf rfl rfl rfl rfl (Nat.le_of_ble_eq_true rfl) (Nat.le_of_ble_eq_true rfl) rfl rfl (fun p1 hz => cT_markOf hz) hs (fun r35 h35 hs => ?_)
        refine ev_istore (pc := 38) (L' := [(0, .inr 0), (1, .inl x1), (2, .inl x2), (3, .inl x3), (4, .inl r35)]) dX_mark_38 rfl (Nat.le_of_ble_eq_true rfl) rfl ?_
        refine ev_aload_n (pc := 40) dX_mark_40 0 rfl rfl ?_
        refine ev_getR (pc := 41) dX_mark_41 lX_12 rfl rfl ?_
        refine ev_iload_n (pc := 44) dX_mark_44 1 rfl rfl ?_
        refine ev_iload_n (pc := 45) dX_mark_45 2 rfl rfl ?_
        refine ev_iload_n (pc := 46) dX_mark_46 3 rfl rfl ?_
        refine ev_callVv (pc := 47) (As := [.inl x1, .inl x2, .inl x3]) (S := []) (d2 := 1) dX_mark_47 vX_78 zT_putMark rfl rfl rfl rfl (Nat.le_of_ble_eq_true rfl) (Nat.le_of_ble_eq_true rfl) rfl rfl (fun p1 hz => cT_putMark hz) hs (fun r47 h47 hs => ?_)
        refine ev_aload_n (pc := 50) dX_mark_50 0 rfl rfl ?_
        refine ev_getR (pc := 51) dX_mark_51 lX_24 rfl rfl ?_
        refine ev_callVv (pc := 54) (As := []) (S := []) (d2 := 0) dX_mark_54 vX_49 zS_forget rfl rfl rfl rfl (Nat.le_of_ble_eq_true rfl) (Nat.le_of_ble_eq_true rfl) rfl rfl (fun p1 hz => cS_forget hz) hs (fun r54 h54 hs => ?_)
        refine ev_iload (pc := 57) dX_mark_57 4 rfl ?_
        exact ev_iret rfl dX_mark_59 hs
      · refine ev_iconst (pc := 27) (v := (-1)) dX_mark_27 (by decide) ?_
        exact ev_iret rfl dX_mark_28 hs
set_option maxHeartbeats 4000000 in
set_option maxRecDepth 100000 in
theorem cX_like {h0 : Hp} {x1 : Int32} {x2 : Int32} {post : Int32 → Hp → Prop} (hs : Sat post (fX_like h0 x1 x2)) : Mt mX_like 2 [.inr 0, .inl x1, .inl x2] h0 post := by
  refine mt_body (L := [(0, .inr 0), (1, .inl x1), (2, .inl x2)]) (by decide +kernel) (Nat.le_of_ble_eq_true rfl) rfl ?_
  refine ev_aload_n (pc := 0) dX_like_0 0 rfl rfl ?_
  refine ev_getR (pc := 1) dX_like_1 lX_12 rfl rfl ?_
  refine ev_iload_n (pc := 4) dX_like_4 1 rfl rfl ?_
  refine ev_callV (pc := 5) (As := [.inl x1]) (S := []) (d2 := 1) dX_like_5 vX_67 zT_hasCopy rfl rfl rfl rfl (Nat.le_of_ble_eq_true rfl) (Nat.le_of_ble_eq_true rfl) rfl rfl (fun p1 hz => cT_hasCopy hz) hs (fun r5 h5 hs => ?_)
  refine ev_if_eq (pc := 8) (tgt := 22) dX_like_8 (by decide) hs (fun hs => ?_) (fun hs => ?_)
  · refine ev_iconst (pc := 22) (v := (-1)) dX_like_22 (by decide) ?_
    exact ev_iret rfl dX_like_23 hs
  · refine ev_aload_n (pc := 11) dX_like_11 0 rfl rfl ?_
    refine ev_getR (pc := 12) dX_like_12 lX_12 rfl rfl ?_
    refine ev_iload_n (pc := 15) dX_like_15 2 rfl rfl ?_
    refine ev_callV (pc := 16) (As := [.inl x2]) (S := []) (d2 := 1) dX_like_16 vX_67 zT_hasCopy rfl rfl rfl rfl (Nat.le_of_ble_eq_true rfl) (Nat.le_of_ble_eq_true rfl) rfl rfl (fun p1 hz => cT_hasCopy hz) hs (fun r16 h16 hs => ?_)
    refine ev_if_ne (pc := 19) (tgt := 24) dX_like_19 (by decide) hs (fun hs => ?_) (fun hs => ?_)
    · refine ev_aload_n (pc := 24) dX_like_24 0 rfl rfl ?_
      refine ev_getR (pc := 25) dX_like_25 lX_24 rfl rfl ?_
      refine ev_callVv (pc := 28) (As := []) (S := []) (d2 := 0) dX_like_28 vX_49 zS_forget rfl rfl rfl rfl (Nat.le_of_ble_eq_true rfl) (Nat.le_of_ble_eq_true rfl) rfl rfl (fun p1 hz => cS_forget hz) hs (fun r28 h28 hs => ?_)
      refine ev_aload_n (pc := 31) dX_like_31 0 rfl rfl ?_
      refine ev_getR (pc := 32) dX_like_32 lX_12 rfl rfl ?_
      refine ev_iload_n (pc := 35) dX_like_35 1 rfl rfl ?_
      refine ev_iload_n (pc := 36) dX_like_36 2 rfl rfl ?_
      refine ev_callV (pc := 37) (As := [.inl x1, .inl x2]) (S := []) (d2 := 1) dX_like_37 vX_82 zT_copyMarks rfl rfl rfl rfl (Nat.le_of_ble_eq_true rfl) (Nat.le_of_ble_eq_true rfl) rfl rfl (fun p1 hz => cT_copyMarks hz) hs (fun r37 h37 hs => ?_)
      exact ev_iret rfl dX_like_40 hs
    · refine ev_iconst (pc := 22) (v := (-1)) dX_like_22 (by decide) ?_
      exact ev_iret rfl dX_like_23 hs
set_option maxHeartbeats 4000000 in
set_option maxRecDepth 100000 in
theorem cX_letter {h0 : Hp} {x1 : Int32} {x2 : Int32} {x3 : Int32} {post : Int32 → Hp → Prop} (hs : Sat post (fX_letter h0 x1 x2 x3)) : Mt mX_letter 2 [.inr 0, .inl x1, .inl x2, .inl x3] h0 post := by
  refine mt_body (L := [(0, .inr 0), (1, .inl x1), (2, .inl x2), (3, .inl x3)]) (by decide +kernel) (Nat.le_of_ble_eq_true rfl) rfl ?_
  refine ev_aload_n (pc := 0) dX_letter_0 0 rfl rfl ?_
  refine ev_getR (pc := 1) dX_letter_1 lX_12 rfl rfl ?_
  refine ev_iload_n (pc := 4) dX_letter_4 1 rfl rfl ?_
  refine ev_callV (pc := 5) (As := [.inl x1]) (S := []) (d2 := 1) dX_letter_5 vX_67 zT_hasCopy rfl rfl rfl rfl (Nat.le_of_ble_eq_true rfl) (Nat.le_of_ble_eq_true rfl) rfl rfl (fun p1 hz => cT_hasCopy hz) hs (fun r5 h5 hs => ?_)
  refine ev_if_eq (pc := 8) (tgt := 20) dX_letter_8 (by decide) hs (fun hs => ?_) (fun hs => ?_)
  · refine ev_iconst (pc := 20) (v := (-1)) dX_letter_20 (by decide) ?_
    exact ev_iret rfl dX_letter_21 hs
  · refine ev_iload_n (pc := 11) dX_letter_11 2 rfl rfl ?_
    refine ev_iconst (pc := 12) (v := 0) dX_letter_12 (by decide) ?_
    refine ev_iconst (pc := 13) (v := 1) dX_letter_13 (by decide) ?_
    refine ev_callS (pc := 14) (As := [.inl x2, .inl 0, .inl 1]) (S := []) (d2 := 0) dX_letter_14 (Or.inl vX_41) zX_isWithin rfl (Nat.le_of_ble_eq_true rfl) (Nat.le_of_ble_eq_true rfl) rfl rfl (fun p1 hz => cX_isWithin hz) hs (fun r14 h14 hs => ?_)
    refine ev_if_ne (pc := 17) (tgt := 22) dX_letter_17 (by decide) hs (fun hs => ?_) (fun hs => ?_)
    · refine ev_iload_n (pc := 22) dX_letter_22 2 rfl rfl ?_
      refine ev_jn (fun (j : Int32 → Hp → RO) => ∀ (s31 : Int32) (h31 : Hp), Sat post (j s31 h31) → Ev mX_letter 2 31 [(0, .inr 0), (1, .inl x1), (2, .inl x2), (3, .inl x3)] [.inl s31] h31 post) hs (fun s31 h31 hs => ?_) (fun j31 hj31 hs => ?_)
      · refine ev_istore (pc := 31) (L' := [(0, .inr 0), (1, .inl x1), (2, .inl x2), (3, .inl x3), (4, .inl s31)]) dX_letter_31 rfl (Nat.le_of_ble_eq_true rfl) rfl ?_
        refine ev_iload_n (pc := 33) dX_letter_33 3 rfl rfl ?_
        refine ev_iconst (pc := 34) (v := (-1)) dX_letter_34 (by decide) ?_
        refine ev_iload (pc := 35) dX_letter_35 4 rfl ?_
        refine ev_iconst (pc := 37) (v := 1) dX_letter_37 (by decide) ?_
        refine ev_isub (pc := 38) dX_letter_38 ?_
        refine ev_callS (pc := 39) (As := [.inl x3, .inl (-1), .inl (s31 - 1)]) (S := []) (d2 := 0) dX_letter_39 (Or.inl vX_41) zX_isWithin rfl (Nat.le_of_ble_eq_true rfl) (Nat.le_of_ble_eq_true rfl) rfl rfl (fun p1 hz => cX_isWithin hz) hs (fun r39 h39 hs => ?_)
        refine ev_if_ne (pc := 42) (tgt := 47) dX_letter_42 (by decide) hs (fun hs => ?_) (fun hs => ?_)
        · refine ev_aload_n (pc := 47) dX_letter_47 0 rfl rfl ?_
          refine ev_getR (pc := 48) dX_letter_48 lX_12 rfl rfl ?_
          refine ev_iload_n (pc := 51) dX_letter_51 1 rfl rfl ?_
          refine ev_iconst (pc := 52) (v := 3) dX_letter_52 (by decide) ?_
          refine ev_iload_n (pc := 53) dX_letter_53 2 rfl rfl ?_
          refine ev_iadd (pc := 54) dX_letter_54 ?_
          refine ev_iload_n (pc := 55) dX_letter_55 3 rfl rfl ?_
          refine ev_callVv (pc := 56) (As := [.inl x1, .inl (3 + x2), .inl x3]) (S := []) (d2 := 0) dX_letter_56 vX_85 zT_putCopyFact rfl rfl rfl rfl (Nat.le_of_ble_eq_true rfl) (Nat.le_of_ble_eq_true rfl) rfl rfl (fun p1 hz => cT_putCopyFact hz) hs (fun r56 h56 hs => ?_)
          refine ev_aload_n (pc := 59) dX_letter_59 0 rfl rfl ?_
          refine ev_getR (pc := 60) dX_letter_60 lX_24 rfl rfl ?_
          refine ev_callVv (pc := 63) (As := []) (S := []) (d2 := 0) dX_letter_63 vX_49 zS_forget rfl rfl rfl rfl (Nat.le_of_ble_eq_true rfl) (Nat.le_of_ble_eq_true rfl) rfl rfl (fun p1 hz => cS_forget hz) hs (fun r63 h63 hs => ?_)
          refine ev_iconst (pc := 66) (v := 1) dX_letter_66 (by decide) ?_
          exact ev_iret rfl dX_letter_67 hs
        · refine ev_iconst (pc := 45) (v := (-1)) dX_letter_45 (by decide) ?_
          exact ev_iret rfl dX_letter_46 hs
      refine ev_if_ne (pc := 23) (tgt := 30) dX_letter_23 (by decide) hs (fun hs => ?_) (fun hs => ?_)
      · refine ev_iconst (pc := 30) (v := 4) dX_letter_30 (by decide) ?_
        exact hj31 _ _ hs
      · refine ev_iconst (pc := 26) (v := 3) dX_letter_26 (by decide) ?_
        refine ev_goto (pc := 27) (tgt := 31) dX_letter_27 (by decide) ?_
        exact hj31 _ _ hs
    · refine ev_iconst (pc := 20) (v := (-1)) dX_letter_20 (by decide) ?_
      exact ev_iret rfl dX_letter_21 hs
set_option maxHeartbeats 4000000 in
set_option maxRecDepth 100000 in
theorem cX_wear {h0 : Hp} {x1 : Int32} {x2 : Int32} {post : Int32 → Hp → Prop} (hs : Sat post (fX_wear h0 x1 x2)) : Mt mX_wear 2 [.inr 0, .inl x1, .inl x2] h0 post := by
  refine mt_body (L := [(0, .inr 0), (1, .inl x1), (2, .inl x2)]) (by decide +kernel) (Nat.le_of_ble_eq_true rfl) rfl ?_
  refine ev_aload_n (pc := 0) dX_wear_0 0 rfl rfl ?_
  refine ev_getR (pc := 1) dX_wear_1 lX_12 rfl rfl ?_
  refine ev_iload_n (pc := 4) dX_wear_4 1 rfl rfl ?_
  refine ev_callV (pc := 5) (As := [.inl x1]) (S := []) (d2 := 1) dX_wear_5 vX_67 zT_hasCopy rfl rfl rfl rfl (Nat.le_of_ble_eq_true rfl) (Nat.le_of_ble_eq_true rfl) rfl rfl (fun p1 hz => cT_hasCopy hz) hs (fun r5 h5 hs => ?_)
  refine ev_if_eq (pc := 8) (tgt := 21) dX_wear_8 (by decide) hs (fun hs => ?_) (fun hs => ?_)
  · refine ev_iconst (pc := 21) (v := (-1)) dX_wear_21 (by decide) ?_
    exact ev_iret rfl dX_wear_22 hs
  · refine ev_iload_n (pc := 11) dX_wear_11 2 rfl rfl ?_
    refine ev_iconst (pc := 12) (v := 0) dX_wear_12 (by decide) ?_
    refine ev_bipush (pc := 13) (v := 99) dX_wear_13 (by decide) ?_
    refine ev_callS (pc := 15) (As := [.inl x2, .inl 0, .inl 99]) (S := []) (d2 := 0) dX_wear_15 (Or.inl vX_41) zX_isWithin rfl (Nat.le_of_ble_eq_true rfl) (Nat.le_of_ble_eq_true rfl) rfl rfl (fun p1 hz => cX_isWithin hz) hs (fun r15 h15 hs => ?_)
    refine ev_if_ne (pc := 18) (tgt := 23) dX_wear_18 (by decide) hs (fun hs => ?_) (fun hs => ?_)
    · refine ev_aload_n (pc := 23) dX_wear_23 0 rfl rfl ?_
      refine ev_getR (pc := 24) dX_wear_24 lX_12 rfl rfl ?_
      refine ev_iload_n (pc := 27) dX_wear_27 1 rfl rfl ?_
      refine ev_iconst (pc := 28) (v := 5) dX_wear_28 (by decide) ?_
      refine ev_callV (pc := 29) (As := [.inl x1, .inl 5]) (S := []) (d2 := 0) dX_wear_29 vX_88 zT_copyFact rfl rfl rfl rfl (Nat.le_of_ble_eq_true rfl) (Nat.le_of_ble_eq_true rfl) rfl rfl (fun p1 hz => cT_copyFact hz) hs (fun r29 h29 hs => ?_)
      refine ev_istore_n (pc := 32) (L' := [(0, .inr 0), (1, .inl x1), (2, .inl x2), (3, .inl r29)]) dX_wear_32 rfl rfl (Nat.le_of_ble_eq_true rfl) rfl ?_
      refine ev_aload_n (pc := 33) dX_wear_33 0 rfl rfl ?_
      refine ev_getR (pc := 34) dX_wear_34 lX_12 rfl rfl ?_
      refine ev_iload_n (pc := 37) dX_wear_37 1 rfl rfl ?_
      refine ev_iconst (pc := 38) (v := 5) dX_wear_38 (by decide) ?_
      refine ev_iload_n (pc := 39) dX_wear_39 2 rfl rfl ?_
      refine ev_callVv (pc := 40) (As := [.inl x1, .inl 5, .inl x2]) (S := []) (d2 := 0) dX_wear_40 vX_85 zT_putCopyFact rfl rfl rfl rfl (Nat.le_of_ble_eq_true rfl) (Nat.le_of_ble_eq_true rfl) rfl rfl (fun p1 hz => cT_putCopyFact hz) hs (fun r40 h40 hs => ?_)
      refine ev_iload_n (pc := 43) dX_wear_43 3 rfl rfl ?_
      exact ev_iret rfl dX_wear_44 hs
    · refine ev_iconst (pc := 21) (v := (-1)) dX_wear_21 (by decide) ?_
      exact ev_iret rfl dX_wear_22 hs
set_option maxHeartbeats 4000000 in
set_option maxRecDepth 100000 in
theorem cX_dated {h0 : Hp} {x1 : Int32} {x2 : Int32} {x3 : Int32} {post : Int32 → Hp → Prop} (hs : Sat post (fX_dated h0 x1 x2 x3)) : Mt mX_dated 2 [.inr 0, .inl x1, .inl x2, .inl x3] h0 post := by
  refine mt_body (L := [(0, .inr 0), (1, .inl x1), (2, .inl x2), (3, .inl x3)]) (by decide +kernel) (Nat.le_of_ble_eq_true rfl) rfl ?_
  refine ev_aload_n (pc := 0) dX_dated_0 0 rfl rfl ?_
  refine ev_getR (pc := 1) dX_dated_1 lX_12 rfl rfl ?_
  refine ev_iload_n (pc := 4) dX_dated_4 1 rfl rfl ?_
  refine ev_callV (pc := 5) (As := [.inl x1]) (S := []) (d2 := 1) dX_dated_5 vX_67 zT_hasCopy rfl rfl rfl rfl (Nat.le_of_ble_eq_true rfl) (Nat.le_of_ble_eq_true rfl) rfl rfl (fun p1 hz => cT_hasCopy hz) hs (fun r5 h5 hs => ?_)
  refine ev_if_eq (pc := 8) (tgt := 29) dX_dated_8 (by decide) hs (fun hs => ?_) (fun hs => ?_)
  · refine ev_iconst (pc := 29) (v := (-1)) dX_dated_29 (by decide) ?_
    exact ev_iret rfl dX_dated_30 hs
  · refine ev_iload_n (pc := 11) dX_dated_11 2 rfl rfl ?_
    refine ev_iconst (pc := 12) (v := (-1)) dX_dated_12 (by decide) ?_
    refine ev_sipush (pc := 13) (v := 999) dX_dated_13 (by decide) ?_
    refine ev_callS (pc := 16) (As := [.inl x2, .inl (-1), .inl 999]) (S := []) (d2 := 0) dX_dated_16 (Or.inl vX_41) zX_isWithin rfl (Nat.le_of_ble_eq_true rfl) (Nat.le_of_ble_eq_true rfl) rfl rfl (fun p1 hz => cX_isWithin hz) hs (fun r16 h16 hs => ?_)
    refine ev_if_eq (pc := 19) (tgt := 29) dX_dated_19 (by decide) hs (fun hs => ?_) (fun hs => ?_)
    · refine ev_iconst (pc := 29) (v := (-1)) dX_dated_29 (by decide) ?_
      exact ev_iret rfl dX_dated_30 hs
    · refine ev_iload_n (pc := 22) dX_dated_22 3 rfl rfl ?_
      refine ev_callS (pc := 23) (As := [.inl x3]) (S := []) (d2 := 1) dX_dated_23 (Or.inl vX_91) zX_isShade rfl (Nat.le_of_ble_eq_true rfl) (Nat.le_of_ble_eq_true rfl) rfl rfl (fun p1 hz => cX_isShade hz) hs (fun r23 h23 hs => ?_)
      refine ev_if_ne (pc := 26) (tgt := 31) dX_dated_26 (by decide) hs (fun hs => ?_) (fun hs => ?_)
      · refine ev_aload_n (pc := 31) dX_dated_31 0 rfl rfl ?_
        refine ev_getR (pc := 32) dX_dated_32 lX_12 rfl rfl ?_
        refine ev_iload_n (pc := 35) dX_dated_35 1 rfl rfl ?_
        refine ev_bipush (pc := 36) (v := 6) dX_dated_36 (by decide) ?_
        refine ev_iload_n (pc := 38) dX_dated_38 2 rfl rfl ?_
        refine ev_callVv (pc := 39) (As := [.inl x1, .inl 6, .inl x2]) (S := []) (d2 := 0) dX_dated_39 vX_85 zT_putCopyFact rfl rfl rfl rfl (Nat.le_of_ble_eq_true rfl) (Nat.le_of_ble_eq_true rfl) rfl rfl (fun p1 hz => cT_putCopyFact hz) hs (fun r39 h39 hs => ?_)
        refine ev_aload_n (pc := 42) dX_dated_42 0 rfl rfl ?_
        refine ev_getR (pc := 43) dX_dated_43 lX_12 rfl rfl ?_
        refine ev_iload_n (pc := 46) dX_dated_46 1 rfl rfl ?_
        refine ev_bipush (pc := 47) (v := 7) dX_dated_47 (by decide) ?_
        refine ev_iload_n (pc := 49) dX_dated_49 3 rfl rfl ?_
        refine ev_callVv (pc := 50) (As := [.inl x1, .inl 7, .inl x3]) (S := []) (d2 := 0) dX_dated_50 vX_85 zT_putCopyFact rfl rfl rfl rfl (Nat.le_of_ble_eq_true rfl) (Nat.le_of_ble_eq_true rfl) rfl rfl (fun p1 hz => cT_putCopyFact hz) hs (fun r50 h50 hs => ?_)
        refine ev_iconst (pc := 53) (v := 1) dX_dated_53 (by decide) ?_
        exact ev_iret rfl dX_dated_54 hs
      · refine ev_iconst (pc := 29) (v := (-1)) dX_dated_29 (by decide) ?_
        exact ev_iret rfl dX_dated_30 hs
set_option maxHeartbeats 4000000 in
set_option maxRecDepth 100000 in
theorem cX_out {h0 : Hp} {x1 : Int32} {x2 : Int32} {post : Int32 → Hp → Prop} (hs : Sat post (fX_out h0 x1 x2)) : Mt mX_out 2 [.inr 0, .inl x1, .inl x2] h0 post := by
  refine mt_body (L := [(0, .inr 0), (1, .inl x1), (2, .inl x2)]) (by decide +kernel) (Nat.le_of_ble_eq_true rfl) rfl ?_
  refine ev_aload_n (pc := 0) dX_out_0 0 rfl rfl ?_
  refine ev_getR (pc := 1) dX_out_1 lX_12 rfl rfl ?_
  refine ev_iload_n (pc := 4) dX_out_4 1 rfl rfl ?_
  refine ev_callV (pc := 5) (As := [.inl x1]) (S := []) (d2 := 1) dX_out_5 vX_94 zT_hasPiece rfl rfl rfl rfl (Nat.le_of_ble_eq_true rfl) (Nat.le_of_ble_eq_true rfl) rfl rfl (fun p1 hz => cT_hasPiece hz) hs (fun r5 h5 hs => ?_)
  refine ev_if_ne (pc := 8) (tgt := 13) dX_out_8 (by decide) hs (fun hs => ?_) (fun hs => ?_)
  · refine ev_aload_n (pc := 13) dX_out_13 0 rfl rfl ?_
    refine ev_getR (pc := 14) dX_out_14 lX_12 rfl rfl ?_
    refine ev_iload_n (pc := 17) dX_out_17 1 rfl rfl ?_
    refine ev_callV (pc := 18) (As := [.inl x1]) (S := []) (d2 := 1) dX_out_18 vX_97 zT_isOut rfl rfl rfl rfl (Nat.le_of_ble_eq_true rfl) (Nat.le_of_ble_eq_true rfl) rfl rfl (fun p1 hz => cT_isOut hz) hs (fun r18 h18 hs => ?_)
    refine ev_iload_n (pc := 21) dX_out_21 2 rfl rfl ?_
    refine ev_icmp_ne (pc := 22) (tgt := 27) dX_out_22 (by decide) hs (fun hs => ?_) (fun hs => ?_)
    · refine ev_aload_n (pc := 27) dX_out_27 0 rfl rfl ?_
      refine ev_getR (pc := 28) dX_out_28 lX_12 rfl rfl ?_
      refine ev_iload_n (pc := 31) dX_out_31 1 rfl rfl ?_
      refine ev_iload_n (pc := 32) dX_out_32 2 rfl rfl ?_
      refine ev_callVv (pc := 33) (As := [.inl x1, .inl x2]) (S := []) (d2 := 0) dX_out_33 vX_100 zT_putOut rfl rfl rfl rfl (Nat.le_of_ble_eq_true rfl) (Nat.le_of_ble_eq_true rfl) rfl rfl (fun p1 hz => cT_putOut hz) hs (fun r33 h33 hs => ?_)
      refine ev_aload_n (pc := 36) dX_out_36 0 rfl rfl ?_
      refine ev_getR (pc := 37) dX_out_37 lX_24 rfl rfl ?_
      refine ev_callVv (pc := 40) (As := []) (S := []) (d2 := 0) dX_out_40 vX_49 zS_forget rfl rfl rfl rfl (Nat.le_of_ble_eq_true rfl) (Nat.le_of_ble_eq_true rfl) rfl rfl (fun p1 hz => cS_forget hz) hs (fun r40 h40 hs => ?_)
      refine ev_iconst (pc := 43) (v := 1) dX_out_43 (by decide) ?_
      exact ev_iret rfl dX_out_44 hs
    · refine ev_iconst (pc := 25) (v := 0) dX_out_25 (by decide) ?_
      exact ev_iret rfl dX_out_26 hs
  · refine ev_iconst (pc := 11) (v := (-1)) dX_out_11 (by decide) ?_
    exact ev_iret rfl dX_out_12 hs
set_option maxHeartbeats 4000000 in
set_option maxRecDepth 100000 in
theorem cX_bar {h0 : Hp} {x1 : Int32} {x2 : Int32} {post : Int32 → Hp → Prop} (hs : Sat post (fX_bar h0 x1 x2)) : Mt mX_bar 2 [.inr 0, .inl x1, .inl x2] h0 post := by
  refine mt_body (L := [(0, .inr 0), (1, .inl x1), (2, .inl x2)]) (by decide +kernel) (Nat.le_of_ble_eq_true rfl) rfl ?_
  refine ev_iload_n (pc := 0) dX_bar_0 1 rfl rfl ?_
  refine ev_callS (pc := 1) (As := [.inl x1]) (S := []) (d2 := 1) dX_bar_1 (Or.inl vX_71) zX_isMark rfl (Nat.le_of_ble_eq_true rfl) (Nat.le_of_ble_eq_true rfl) rfl rfl (fun p1 hz => cX_isMark hz) hs (fun r1 h1 hs => ?_)
  refine ev_if_eq (pc := 4) (tgt := 19) dX_bar_4 (by decide) hs (fun hs => ?_) (fun hs => ?_)
  · refine ev_iconst (pc := 19) (v := (-1)) dX_bar_19 (by decide) ?_
    exact ev_iret rfl dX_bar_20 hs
  · refine ev_iload_n (pc := 7) dX_bar_7 2 rfl rfl ?_
    refine ev_callS (pc := 8) (As := [.inl x2]) (S := []) (d2 := 1) dX_bar_8 (Or.inl vX_71) zX_isMark rfl (Nat.le_of_ble_eq_true rfl) (Nat.le_of_ble_eq_true rfl) rfl rfl (fun p1 hz => cX_isMark hz) hs (fun r8 h8 hs => ?_)
    refine ev_if_eq (pc := 11) (tgt := 19) dX_bar_11 (by decide) hs (fun hs => ?_) (fun hs => ?_)
    · refine ev_iconst (pc := 19) (v := (-1)) dX_bar_19 (by decide) ?_
      exact ev_iret rfl dX_bar_20 hs
    · refine ev_iload_n (pc := 14) dX_bar_14 1 rfl rfl ?_
      refine ev_iload_n (pc := 15) dX_bar_15 2 rfl rfl ?_
      refine ev_icmp_ne (pc := 16) (tgt := 21) dX_bar_16 (by decide) hs (fun hs => ?_) (fun hs => ?_)
      · refine ev_aload_n (pc := 21) dX_bar_21 0 rfl rfl ?_
        refine ev_getR (pc := 22) dX_bar_22 lX_12 rfl rfl ?_
        refine ev_iload_n (pc := 25) dX_bar_25 1 rfl rfl ?_
        refine ev_iload_n (pc := 26) dX_bar_26 2 rfl rfl ?_
        refine ev_callV (pc := 27) (As := [.inl x1, .inl x2]) (S := []) (d2 := 1) dX_bar_27 vX_104 zT_hasBar rfl rfl rfl rfl (Nat.le_of_ble_eq_true rfl) (Nat.le_of_ble_eq_true rfl) rfl rfl (fun p1 hz => cT_hasBar hz) hs (fun r27 h27 hs => ?_)
        refine ev_if_eq (pc := 30) (tgt := 36) dX_bar_30 (by decide) hs (fun hs => ?_) (fun hs => ?_)
        · refine ev_aload_n (pc := 36) dX_bar_36 0 rfl rfl ?_
          refine ev_getR (pc := 37) dX_bar_37 lX_12 rfl rfl ?_
          refine ev_getI (pc := 40) dX_bar_40 lX_108 rfl rfl ?_
          refine ev_bipush (pc := 43) (v := 6) dX_bar_43 (by decide) ?_
          refine ev_icmp_lt (pc := 45) (tgt := 51) dX_bar_45 (by decide) hs (fun hs => ?_) (fun hs => ?_)
          · refine ev_aload_n (pc := 51) dX_bar_51 0 rfl rfl ?_
            refine ev_getR (pc := 52) dX_bar_52 lX_24 rfl rfl ?_
            refine ev_callVv (pc := 55) (As := []) (S := []) (d2 := 0) dX_bar_55 vX_49 zS_forget rfl rfl rfl rfl (Nat.le_of_ble_eq_true rfl) (Nat.le_of_ble_eq_true rfl) rfl rfl (fun p1 hz => cS_forget hz) hs (fun r55 h55 hs => ?_)
            refine ev_aload_n (pc := 58) dX_bar_58 0 rfl rfl ?_
            refine ev_getR (pc := 59) dX_bar_59 lX_12 rfl rfl ?_
            refine ev_iload_n (pc := 62) dX_bar_62 1 rfl rfl ?_
            refine ev_iload_n (pc := 63) dX_bar_63 2 rfl rfl ?_
            refine ev_callV (pc := 64) (As := [.inl x1, .inl x2]) (S := []) (d2 := 0) dX_bar_64 vX_111 zT_addBar rfl rfl rfl rfl (Nat.le_of_ble_eq_true rfl) (Nat.le_of_ble_eq_true rfl) rfl rfl (fun p1 hz => cT_addBar hz) hs (fun r64 h64 hs => ?_)
            exact ev_iret rfl dX_bar_67 hs
          · refine ev_bipush (pc := 48) (v := (-2)) dX_bar_48 (by decide) ?_
            exact ev_iret rfl dX_bar_50 hs
        · refine ev_bipush (pc := 33) (v := (-3)) dX_bar_33 (by decide) ?_
          exact ev_iret rfl dX_bar_35 hs
      · refine ev_iconst (pc := 19) (v := (-1)) dX_bar_19 (by decide) ?_
        exact ev_iret rfl dX_bar_20 hs
set_option maxHeartbeats 4000000 in
set_option maxRecDepth 100000 in
theorem cX_free {h0 : Hp}  {post : Int32 → Hp → Prop} (hs : Sat post (fX_free h0 )) : Mt mX_free 2 [.inr 0] h0 post := by
  refine mt_body (L := [(0, .inr 0)]) (by decide +kernel) (Nat.le_of_ble_eq_true rfl) rfl ?_
  refine ev_aload_n (pc := 0) dX_free_0 0 rfl rfl ?_
  refine ev_getR (pc := 1) dX_free_1 lX_24 rfl rfl ?_
  refine ev_callVv (pc := 4) (As := []) (S := []) (d2 := 0) dX_free_4 vX_49 zS_forget rfl rfl rfl rfl (Nat.le_of_ble_eq_true rfl) (Nat.le_of_ble_eq_true rfl) rfl rfl (fun p1 hz => cS_forget hz) hs (fun r4 h4 hs => ?_)
  refine ev_aload_n (pc := 7) dX_free_7 0 rfl rfl ?_
  refine ev_getR (pc := 8) dX_free_8 lX_12 rfl rfl ?_
  refine ev_callV (pc := 11) (As := []) (S := []) (d2 := 1) dX_free_11 vX_114 zT_freeBars rfl rfl rfl rfl (Nat.le_of_ble_eq_true rfl) (Nat.le_of_ble_eq_true rfl) rfl rfl (fun p1 hz => cT_freeBars hz) hs (fun r11 h11 hs => ?_)
  exact ev_iret rfl dX_free_14 hs
set_option maxHeartbeats 4000000 in
set_option maxRecDepth 100000 in
theorem cX_of {h0 : Hp} {x1 : Int32} {x2 : Int32} {post : Int32 → Hp → Prop} (hs : Sat post (fX_of h0 x1 x2)) : Mt mX_of 2 [.inr 0, .inl x1, .inl x2] h0 post := by
  refine mt_body (L := [(0, .inr 0), (1, .inl x1), (2, .inl x2)]) (by decide +kernel) (Nat.le_of_ble_eq_true rfl) rfl ?_
  refine ev_aload_n (pc := 0) dX_of_0 0 rfl rfl ?_
  refine ev_getR (pc := 1) dX_of_1 lX_12 rfl rfl ?_
  refine ev_iload_n (pc := 4) dX_of_4 1 rfl rfl ?_
  refine ev_callV (pc := 5) (As := [.inl x1]) (S := []) (d2 := 1) dX_of_5 vX_67 zT_hasCopy rfl rfl rfl rfl (Nat.le_of_ble_eq_true rfl) (Nat.le_of_ble_eq_true rfl) rfl rfl (fun p1 hz => cT_hasCopy hz) hs (fun r5 h5 hs => ?_)
  refine ev_if_eq (pc := 8) (tgt := 21) dX_of_8 (by decide) hs (fun hs => ?_) (fun hs => ?_)
  · refine ev_sipush (pc := 21) (v := (-1000)) dX_of_21 (by decide) ?_
    exact ev_iret rfl dX_of_24 hs
  · refine ev_iload_n (pc := 11) dX_of_11 2 rfl rfl ?_
    refine ev_iconst (pc := 12) (v := 0) dX_of_12 (by decide) ?_
    refine ev_bipush (pc := 13) (v := 15) dX_of_13 (by decide) ?_
    refine ev_callS (pc := 15) (As := [.inl x2, .inl 0, .inl 15]) (S := []) (d2 := 0) dX_of_15 (Or.inl vX_41) zX_isWithin rfl (Nat.le_of_ble_eq_true rfl) (Nat.le_of_ble_eq_true rfl) rfl rfl (fun p1 hz => cX_isWithin hz) hs (fun r15 h15 hs => ?_)
    refine ev_if_ne (pc := 18) (tgt := 25) dX_of_18 (by decide) hs (fun hs => ?_) (fun hs => ?_)
    · refine ev_iload_n (pc := 25) dX_of_25 2 rfl rfl ?_
      refine ev_bipush (pc := 26) (v := 8) dX_of_26 (by decide) ?_
      refine ev_icmp_lt (pc := 28) (tgt := 44) dX_of_28 (by decide) hs (fun hs => ?_) (fun hs => ?_)
      · refine ev_aload_n (pc := 44) dX_of_44 0 rfl rfl ?_
        refine ev_getR (pc := 45) dX_of_45 lX_12 rfl rfl ?_
        refine ev_iload_n (pc := 48) dX_of_48 1 rfl rfl ?_
        refine ev_iload_n (pc := 49) dX_of_49 2 rfl rfl ?_
        refine ev_callV (pc := 50) (As := [.inl x1, .inl x2]) (S := []) (d2 := 0) dX_of_50 vX_88 zT_copyFact rfl rfl rfl rfl (Nat.le_of_ble_eq_true rfl) (Nat.le_of_ble_eq_true rfl) rfl rfl (fun p1 hz => cT_copyFact hz) hs (fun r50 h50 hs => ?_)
        exact ev_iret rfl dX_of_53 hs
      · refine ev_aload_n (pc := 31) dX_of_31 0 rfl rfl ?_
        refine ev_getR (pc := 32) dX_of_32 lX_12 rfl rfl ?_
        refine ev_iload_n (pc := 35) dX_of_35 1 rfl rfl ?_
        refine ev_iload_n (pc := 36) dX_of_36 2 rfl rfl ?_
        refine ev_bipush (pc := 37) (v := 8) dX_of_37 (by decide) ?_
        refine ev_isub (pc := 39) dX_of_39 ?_
        refine ev_callV (pc := 40) (As := [.inl x1, .inl (x2 - 8)]) (S := []) (d2 := 1) dX_of_40 vX_74 zT_markOf rfl rfl rfl rfl (Nat.le_of_ble_eq_true rfl) (Nat.le_of_ble_eq_true rfl) rfl rfl (fun p1 hz => cT_markOf hz) hs (fun r40 h40 hs => ?_)
        exact ev_iret rfl dX_of_43 hs
    · refine ev_sipush (pc := 21) (v := (-1000)) dX_of_21 (by decide) ?_
      exact ev_iret rfl dX_of_24 hs
set_option maxHeartbeats 4000000 in
set_option maxRecDepth 100000 in
theorem cX_told {h0 : Hp} {x1 : Int32} {x2 : Int32} {post : Int32 → Hp → Prop} (hs : Sat post (fX_told h0 x1 x2)) : Mt mX_told 3 [.inr 0, .inl x1, .inl x2] h0 post := by
  refine mt_body (L := [(0, .inr 0), (1, .inl x1), (2, .inl x2)]) (by decide +kernel) (Nat.le_of_ble_eq_true rfl) rfl ?_
  refine ev_aload_n (pc := 0) dX_told_0 0 rfl rfl ?_
  refine ev_getR (pc := 1) dX_told_1 lX_12 rfl rfl ?_
  refine ev_iload_n (pc := 4) dX_told_4 1 rfl rfl ?_
  refine ev_callV (pc := 5) (As := [.inl x1]) (S := []) (d2 := 1) dX_told_5 vX_94 zT_hasPiece rfl rfl rfl rfl (Nat.le_of_ble_eq_true rfl) (Nat.le_of_ble_eq_true rfl) rfl rfl (fun p1 hz => cT_hasPiece hz) hs (fun r5 h5 hs => ?_)
  refine ev_if_eq (pc := 8) (tgt := 20) dX_told_8 (by decide) hs (fun hs => ?_) (fun hs => ?_)
  · refine ev_iconst (pc := 20) (v := (-1)) dX_told_20 (by decide) ?_
    exact ev_iret rfl dX_told_21 hs
  · refine ev_iload_n (pc := 11) dX_told_11 2 rfl rfl ?_
    refine ev_iconst (pc := 12) (v := 0) dX_told_12 (by decide) ?_
    refine ev_iconst (pc := 13) (v := 5) dX_told_13 (by decide) ?_
    refine ev_callS (pc := 14) (As := [.inl x2, .inl 0, .inl 5]) (S := []) (d2 := 0) dX_told_14 (Or.inl vX_41) zX_isWithin rfl (Nat.le_of_ble_eq_true rfl) (Nat.le_of_ble_eq_true rfl) rfl rfl (fun p1 hz => cX_isWithin hz) hs (fun r14 h14 hs => ?_)
    refine ev_if_ne (pc := 17) (tgt := 22) dX_told_17 (by decide) hs (fun hs => ?_) (fun hs => ?_)
    · refine ev_iload_n (pc := 22) dX_told_22 2 rfl rfl ?_
      refine ev_iconst (pc := 23) (v := 4) dX_told_23 (by decide) ?_
      refine ev_icmp_ne (pc := 24) (tgt := 44) dX_told_24 (by decide) hs (fun hs => ?_) (fun hs => ?_)
      · refine ev_iload_n (pc := 44) dX_told_44 2 rfl rfl ?_
        refine ev_iconst (pc := 45) (v := 5) dX_told_45 (by decide) ?_
        refine ev_icmp_ne (pc := 46) (tgt := 66) dX_told_46 (by decide) hs (fun hs => ?_) (fun hs => ?_)
        · refine ev_aload_n (pc := 66) dX_told_66 0 rfl rfl ?_
          refine ev_getR (pc := 67) dX_told_67 lX_12 rfl rfl ?_
          refine ev_iload_n (pc := 70) dX_told_70 1 rfl rfl ?_
          refine ev_iload_n (pc := 71) dX_told_71 2 rfl rfl ?_
          refine ev_callV (pc := 72) (As := [.inl x1, .inl x2]) (S := []) (d2 := 0) dX_told_72 vX_123 zT_pieceFact rfl rfl rfl rfl (Nat.le_of_ble_eq_true rfl) (Nat.le_of_ble_eq_true rfl) rfl rfl (fun p1 hz => cT_pieceFact hz) hs (fun r72 h72 hs => ?_)
          exact ev_iret rfl dX_told_75 hs
        · refine ev_aload_n (pc := 49) dX_told_49 0 rfl rfl ?_
          refine ev_getR (pc := 50) dX_told_50 lX_12 rfl rfl ?_
          refine ev_iload_n (pc := 53) dX_told_53 1 rfl rfl ?_
          refine ev_callV (pc := 54) (As := [.inl x1]) (S := []) (d2 := 2) dX_told_54 vX_120 zT_takesPart rfl rfl rfl rfl (Nat.le_of_ble_eq_true rfl) (Nat.le_of_ble_eq_true rfl) rfl rfl (fun p1 hz => cT_takesPart hz) hs (fun r54 h54 hs => ?_)
          refine ev_if_eq (pc := 57) (tgt := 64) dX_told_57 (by decide) hs (fun hs => ?_) (fun hs => ?_)
          · refine ev_iconst (pc := 64) (v := 0) dX_told_64 (by decide) ?_
            exact ev_iret rfl dX_told_65 hs
          · refine ev_iconst (pc := 60) (v := 1) dX_told_60 (by decide) ?_
            refine ev_goto (pc := 61) (tgt := 65) dX_told_61 (by decide) ?_
            exact ev_iret rfl dX_told_65 hs
      · refine ev_aload_n (pc := 27) dX_told_27 0 rfl rfl ?_
        refine ev_getR (pc := 28) dX_told_28 lX_12 rfl rfl ?_
        refine ev_iload_n (pc := 31) dX_told_31 1 rfl rfl ?_
        refine ev_callV (pc := 32) (As := [.inl x1]) (S := []) (d2 := 1) dX_told_32 vX_117 zT_isForged rfl rfl rfl rfl (Nat.le_of_ble_eq_true rfl) (Nat.le_of_ble_eq_true rfl) rfl rfl (fun p1 hz => cT_isForged hz) hs (fun r32 h32 hs => ?_)
        refine ev_if_eq (pc := 35) (tgt := 42) dX_told_35 (by decide) hs (fun hs => ?_) (fun hs => ?_)
        · refine ev_iconst (pc := 42) (v := 0) dX_told_42 (by decide) ?_
          exact ev_iret rfl dX_told_43 hs
        · refine ev_iconst (pc := 38) (v := 1) dX_told_38 (by decide) ?_
          refine ev_goto (pc := 39) (tgt := 43) dX_told_39 (by decide) ?_
          exact ev_iret rfl dX_told_43 hs
    · refine ev_iconst (pc := 20) (v := (-1)) dX_told_20 (by decide) ?_
      exact ev_iret rfl dX_told_21 hs
set_option maxHeartbeats 4000000 in
set_option maxRecDepth 100000 in
theorem cX_quarrel {h0 : Hp}  {post : Int32 → Hp → Prop} (hs : Sat post (fX_quarrel h0 )) : Mt mX_quarrel 12 [.inr 0] h0 post := by
  refine mt_body (L := [(0, .inr 0)]) (by decide +kernel) (Nat.le_of_ble_eq_true rfl) rfl ?_
  refine ev_aload_n (pc := 0) dX_quarrel_0 0 rfl rfl ?_
  refine ev_getR (pc := 1) dX_quarrel_1 lX_24 rfl rfl ?_
  refine ev_callVv (pc := 4) (As := []) (S := []) (d2 := 11) dX_quarrel_4 vX_126 zS_settle rfl rfl rfl rfl (Nat.le_of_ble_eq_true rfl) (Nat.le_of_ble_eq_true rfl) rfl rfl (fun p1 hz => cS_settle hz) hs (fun r4 h4 hs => ?_)
  refine ev_aload_n (pc := 7) dX_quarrel_7 0 rfl rfl ?_
  refine ev_getR (pc := 8) dX_quarrel_8 lX_24 rfl rfl ?_
  refine ev_getI (pc := 11) dX_quarrel_11 lX_129 rfl rfl ?_
  refine ev_if_ne (pc := 14) (tgt := 22) dX_quarrel_14 (by decide) hs (fun hs => ?_) (fun hs => ?_)
  · refine ev_aload_n (pc := 22) dX_quarrel_22 0 rfl rfl ?_
    refine ev_getR (pc := 23) dX_quarrel_23 lX_24 rfl rfl ?_
    refine ev_getI (pc := 26) dX_quarrel_26 lX_132 rfl rfl ?_
    exact ev_iret rfl dX_quarrel_29 hs
  · refine ev_bipush (pc := 17) (v := (-4)) dX_quarrel_17 (by decide) ?_
    refine ev_goto (pc := 19) (tgt := 29) dX_quarrel_19 (by decide) ?_
    exact ev_iret rfl dX_quarrel_29 hs
set_option maxHeartbeats 4000000 in
set_option maxRecDepth 100000 in
theorem cX_layings {h0 : Hp}  {post : Int32 → Hp → Prop} (hs : Sat post (fX_layings h0 )) : Mt mX_layings 12 [.inr 0] h0 post := by
  refine mt_body (L := [(0, .inr 0)]) (by decide +kernel) (Nat.le_of_ble_eq_true rfl) rfl ?_
  refine ev_aload_n (pc := 0) dX_layings_0 0 rfl rfl ?_
  refine ev_getR (pc := 1) dX_layings_1 lX_24 rfl rfl ?_
  refine ev_callVv (pc := 4) (As := []) (S := []) (d2 := 11) dX_layings_4 vX_126 zS_settle rfl rfl rfl rfl (Nat.le_of_ble_eq_true rfl) (Nat.le_of_ble_eq_true rfl) rfl rfl (fun p1 hz => cS_settle hz) hs (fun r4 h4 hs => ?_)
  refine ev_aload_n (pc := 7) dX_layings_7 0 rfl rfl ?_
  refine ev_getR (pc := 8) dX_layings_8 lX_24 rfl rfl ?_
  refine ev_getI (pc := 11) dX_layings_11 lX_129 rfl rfl ?_
  exact ev_iret rfl dX_layings_14 hs
set_option maxHeartbeats 4000000 in
set_option maxRecDepth 100000 in
theorem cX_laying {h0 : Hp} {x1 : Int32} {x2 : Int32} {post : Int32 → Hp → Prop} (hs : Sat post (fX_laying h0 x1 x2)) : Mt mX_laying 13 [.inr 0, .inl x1, .inl x2] h0 post := by
  refine mt_body (L := [(0, .inr 0), (1, .inl x1), (2, .inl x2)]) (by decide +kernel) (Nat.le_of_ble_eq_true rfl) rfl ?_
  refine ev_aload_n (pc := 0) dX_laying_0 0 rfl rfl ?_
  refine ev_getR (pc := 1) dX_laying_1 lX_12 rfl rfl ?_
  refine ev_iload_n (pc := 4) dX_laying_4 2 rfl rfl ?_
  refine ev_callV (pc := 5) (As := [.inl x2]) (S := []) (d2 := 1) dX_laying_5 vX_94 zT_hasPiece rfl rfl rfl rfl (Nat.le_of_ble_eq_true rfl) (Nat.le_of_ble_eq_true rfl) rfl rfl (fun p1 hz => cT_hasPiece hz) hs (fun r5 h5 hs => ?_)
  refine ev_if_ne (pc := 8) (tgt := 13) dX_laying_8 (by decide) hs (fun hs => ?_) (fun hs => ?_)
  · refine ev_aload_n (pc := 13) dX_laying_13 0 rfl rfl ?_
    refine ev_getR (pc := 14) dX_laying_14 lX_12 rfl rfl ?_
    refine ev_iload_n (pc := 17) dX_laying_17 2 rfl rfl ?_
    refine ev_callV (pc := 18) (As := [.inl x2]) (S := []) (d2 := 2) dX_laying_18 vX_120 zT_takesPart rfl rfl rfl rfl (Nat.le_of_ble_eq_true rfl) (Nat.le_of_ble_eq_true rfl) rfl rfl (fun p1 hz => cT_takesPart hz) hs (fun r18 h18 hs => ?_)
    refine ev_if_ne (pc := 21) (tgt := 27) dX_laying_21 (by decide) hs (fun hs => ?_) (fun hs => ?_)
    · refine ev_aload_n (pc := 27) dX_laying_27 0 rfl rfl ?_
      refine ev_getR (pc := 28) dX_laying_28 lX_24 rfl rfl ?_
      refine ev_callVv (pc := 31) (As := []) (S := []) (d2 := 11) dX_laying_31 vX_126 zS_settle rfl rfl rfl rfl (Nat.le_of_ble_eq_true rfl) (Nat.le_of_ble_eq_true rfl) rfl rfl (fun p1 hz => cS_settle hz) hs (fun r31 h31 hs => ?_)
      refine ev_iload_n (pc := 34) dX_laying_34 1 rfl rfl ?_
      refine ev_iconst (pc := 35) (v := 0) dX_laying_35 (by decide) ?_
      refine ev_aload_n (pc := 36) dX_laying_36 0 rfl rfl ?_
      refine ev_getR (pc := 37) dX_laying_37 lX_24 rfl rfl ?_
      refine ev_getI (pc := 40) dX_laying_40 lX_129 rfl rfl ?_
      refine ev_iconst (pc := 43) (v := 1) dX_laying_43 (by decide) ?_
      refine ev_isub (pc := 44) dX_laying_44 ?_
      refine ev_callS (pc := 45) (As := [.inl x1, .inl 0, .inl ((h31 3 4) - 1)]) (S := []) (d2 := 0) dX_laying_45 (Or.inl vX_41) zX_isWithin rfl (Nat.le_of_ble_eq_true rfl) (Nat.le_of_ble_eq_true rfl) rfl rfl (fun p1 hz => cX_isWithin hz) hs (fun r45 h45 hs => ?_)
      refine ev_if_eq (pc := 48) (tgt := 63) dX_laying_48 (by decide) hs (fun hs => ?_) (fun hs => ?_)
      · refine ev_bipush (pc := 63) (v := (-4)) dX_laying_63 (by decide) ?_
        exact ev_iret rfl dX_laying_65 hs
      · refine ev_aload_n (pc := 51) dX_laying_51 0 rfl rfl ?_
        refine ev_getR (pc := 52) dX_laying_52 lX_24 rfl rfl ?_
        refine ev_iload_n (pc := 55) dX_laying_55 1 rfl rfl ?_
        refine ev_iload_n (pc := 56) dX_laying_56 2 rfl rfl ?_
        refine ev_callV (pc := 57) (As := [.inl x1, .inl x2]) (S := []) (d2 := 12) dX_laying_57 vX_135 zS_spotIn rfl rfl rfl rfl (Nat.le_of_ble_eq_true rfl) (Nat.le_of_ble_eq_true rfl) rfl rfl (fun p1 hz => cS_spotIn hz) hs (fun r57 h57 hs => ?_)
        refine ev_goto (pc := 60) (tgt := 65) dX_laying_60 (by decide) ?_
        exact ev_iret rfl dX_laying_65 hs
    · refine ev_bipush (pc := 24) (v := (-5)) dX_laying_24 (by decide) ?_
      exact ev_iret rfl dX_laying_26 hs
  · refine ev_iconst (pc := 11) (v := (-1)) dX_laying_11 (by decide) ?_
    exact ev_iret rfl dX_laying_12 hs
set_option maxHeartbeats 4000000 in
set_option maxRecDepth 100000 in
theorem cX_refusalOf {h0 : Hp} {x1 : Int32} {post : Int32 → Hp → Prop} (hs : Sat post (fX_refusalOf h0 x1)) : Mt mX_refusalOf 12 [.inr 0, .inl x1] h0 post := by
  refine mt_body (L := [(0, .inr 0), (1, .inl x1)]) (by decide +kernel) (Nat.le_of_ble_eq_true rfl) rfl ?_
  refine ev_aload_n (pc := 0) dX_refusalOf_0 0 rfl rfl ?_
  refine ev_getR (pc := 1) dX_refusalOf_1 lX_12 rfl rfl ?_
  refine ev_iload_n (pc := 4) dX_refusalOf_4 1 rfl rfl ?_
  refine ev_callV (pc := 5) (As := [.inl x1]) (S := []) (d2 := 1) dX_refusalOf_5 vX_67 zT_hasCopy rfl rfl rfl rfl (Nat.le_of_ble_eq_true rfl) (Nat.le_of_ble_eq_true rfl) rfl rfl (fun p1 hz => cT_hasCopy hz) hs (fun r5 h5 hs => ?_)
  refine ev_if_ne (pc := 8) (tgt := 13) dX_refusalOf_8 (by decide) hs (fun hs => ?_) (fun hs => ?_)
  · refine ev_aload_n (pc := 13) dX_refusalOf_13 0 rfl rfl ?_
    refine ev_getR (pc := 14) dX_refusalOf_14 lX_12 rfl rfl ?_
    refine ev_aload_n (pc := 17) dX_refusalOf_17 0 rfl rfl ?_
    refine ev_getR (pc := 18) dX_refusalOf_18 lX_12 rfl rfl ?_
    refine ev_iload_n (pc := 21) dX_refusalOf_21 1 rfl rfl ?_
    refine ev_iconst (pc := 22) (v := 0) dX_refusalOf_22 (by decide) ?_
    refine ev_callV (pc := 23) (As := [.inl x1, .inl 0]) (S := [.inr 1]) (d2 := 0) dX_refusalOf_23 vX_88 zT_copyFact rfl rfl rfl rfl (Nat.le_of_ble_eq_true rfl) (Nat.le_of_ble_eq_true rfl) rfl rfl (fun p1 hz => cT_copyFact hz) hs (fun r23 h23 hs => ?_)
    refine ev_callV (pc := 26) (As := [.inl r23]) (S := []) (d2 := 2) dX_refusalOf_26 vX_120 zT_takesPart rfl rfl rfl rfl (Nat.le_of_ble_eq_true rfl) (Nat.le_of_ble_eq_true rfl) rfl rfl (fun p1 hz => cT_takesPart hz) hs (fun r26 h26 hs => ?_)
    refine ev_if_ne (pc := 29) (tgt := 35) dX_refusalOf_29 (by decide) hs (fun hs => ?_) (fun hs => ?_)
    · refine ev_aload_n (pc := 35) dX_refusalOf_35 0 rfl rfl ?_
      refine ev_getR (pc := 36) dX_refusalOf_36 lX_24 rfl rfl ?_
      refine ev_callVv (pc := 39) (As := []) (S := []) (d2 := 11) dX_refusalOf_39 vX_126 zS_settle rfl rfl rfl rfl (Nat.le_of_ble_eq_true rfl) (Nat.le_of_ble_eq_true rfl) rfl rfl (fun p1 hz => cS_settle hz) hs (fun r39 h39 hs => ?_)
      refine ev_aload_n (pc := 42) dX_refusalOf_42 0 rfl rfl ?_
      refine ev_getR (pc := 43) dX_refusalOf_43 lX_24 rfl rfl ?_
      refine ev_getI (pc := 46) dX_refusalOf_46 lX_129 rfl rfl ?_
      refine ev_if_ne (pc := 49) (tgt := 57) dX_refusalOf_49 (by decide) hs (fun hs => ?_) (fun hs => ?_)
      · refine ev_iconst (pc := 57) (v := 0) dX_refusalOf_57 (by decide) ?_
        exact ev_iret rfl dX_refusalOf_58 hs
      · refine ev_bipush (pc := 52) (v := (-4)) dX_refusalOf_52 (by decide) ?_
        refine ev_goto (pc := 54) (tgt := 58) dX_refusalOf_54 (by decide) ?_
        exact ev_iret rfl dX_refusalOf_58 hs
    · refine ev_bipush (pc := 32) (v := (-5)) dX_refusalOf_32 (by decide) ?_
      exact ev_iret rfl dX_refusalOf_34 hs
  · refine ev_iconst (pc := 11) (v := (-1)) dX_refusalOf_11 (by decide) ?_
    exact ev_iret rfl dX_refusalOf_12 hs
set_option maxHeartbeats 4000000 in
set_option maxRecDepth 100000 in
theorem cX_place {h0 : Hp} {x1 : Int32} {post : Int32 → Hp → Prop} (hs : Sat post (fX_place h0 x1)) : Mt mX_place 13 [.inr 0, .inl x1] h0 post := by
  refine mt_body (L := [(0, .inr 0), (1, .inl x1)]) (by decide +kernel) (Nat.le_of_ble_eq_true rfl) rfl ?_
  refine ev_aload_n (pc := 0) dX_place_0 0 rfl rfl ?_
  refine ev_iload_n (pc := 1) dX_place_1 1 rfl rfl ?_
  refine ev_callV (pc := 2) (As := [.inl x1]) (S := []) (d2 := 12) dX_place_2 vX_138 zX_refusalOf rfl rfl rfl rfl (Nat.le_of_ble_eq_true rfl) (Nat.le_of_ble_eq_true rfl) rfl rfl (fun p1 hz => cX_refusalOf hz) hs (fun r2 h2 hs => ?_)
  refine ev_istore_n (pc := 5) (L' := [(0, .inr 0), (1, .inl x1), (2, .inl r2)]) dX_place_5 rfl rfl (Nat.le_of_ble_eq_true rfl) rfl ?_
  refine ev_iload_n (pc := 6) dX_place_6 2 rfl rfl ?_
  refine ev_if_eq (pc := 7) (tgt := 12) dX_place_7 (by decide) hs (fun hs => ?_) (fun hs => ?_)
  · refine ev_aload_n (pc := 12) dX_place_12 0 rfl rfl ?_
    refine ev_getR (pc := 13) dX_place_13 lX_24 rfl rfl ?_
    refine ev_getR (pc := 16) dX_place_16 lX_142 rfl rfl ?_
    refine ev_iload_n (pc := 19) dX_place_19 1 rfl rfl ?_
    refine ev_iald (pc := 20) dX_place_20 hs (fun r20 hs => ?_)
    refine ev_istore_n (pc := 21) (L' := [(0, .inr 0), (1, .inl x1), (2, .inl r2), (3, .inl r20)]) dX_place_21 rfl rfl (Nat.le_of_ble_eq_true rfl) rfl ?_
    refine ev_iload_n (pc := 22) dX_place_22 3 rfl rfl ?_
    refine ev_iconst (pc := 23) (v := (-1)) dX_place_23 (by decide) ?_
    refine ev_icmp_ne (pc := 24) (tgt := 32) dX_place_24 (by decide) hs (fun hs => ?_) (fun hs => ?_)
    · refine ev_iload_n (pc := 32) dX_place_32 3 rfl rfl ?_
      exact ev_iret rfl dX_place_33 hs
    · refine ev_bipush (pc := 27) (v := (-6)) dX_place_27 (by decide) ?_
      refine ev_goto (pc := 29) (tgt := 33) dX_place_29 (by decide) ?_
      exact ev_iret rfl dX_place_33 hs
  · refine ev_iload_n (pc := 10) dX_place_10 2 rfl rfl ?_
    exact ev_iret rfl dX_place_11 hs
set_option maxHeartbeats 4000000 in
set_option maxRecDepth 100000 in
theorem cX_rivals {h0 : Hp} {x1 : Int32} {post : Int32 → Hp → Prop} (hs : Sat post (fX_rivals h0 x1)) : Mt mX_rivals 13 [.inr 0, .inl x1] h0 post := by
  refine mt_body (L := [(0, .inr 0), (1, .inl x1)]) (by decide +kernel) (Nat.le_of_ble_eq_true rfl) rfl ?_
  refine ev_aload_n (pc := 0) dX_rivals_0 0 rfl rfl ?_
  refine ev_iload_n (pc := 1) dX_rivals_1 1 rfl rfl ?_
  refine ev_callV (pc := 2) (As := [.inl x1]) (S := []) (d2 := 12) dX_rivals_2 vX_138 zX_refusalOf rfl rfl rfl rfl (Nat.le_of_ble_eq_true rfl) (Nat.le_of_ble_eq_true rfl) rfl rfl (fun p1 hz => cX_refusalOf hz) hs (fun r2 h2 hs => ?_)
  refine ev_istore_n (pc := 5) (L' := [(0, .inr 0), (1, .inl x1), (2, .inl r2)]) dX_rivals_5 rfl rfl (Nat.le_of_ble_eq_true rfl) rfl ?_
  refine ev_iload_n (pc := 6) dX_rivals_6 2 rfl rfl ?_
  refine ev_if_eq (pc := 7) (tgt := 14) dX_rivals_7 (by decide) hs (fun hs => ?_) (fun hs => ?_)
  · refine ev_aload_n (pc := 14) dX_rivals_14 0 rfl rfl ?_
    refine ev_getR (pc := 15) dX_rivals_15 lX_24 rfl rfl ?_
    refine ev_iload_n (pc := 18) dX_rivals_18 1 rfl rfl ?_
    refine ev_callV (pc := 19) (As := [.inl x1]) (S := []) (d2 := 2) dX_rivals_19 vX_146 zS_placesOf rfl rfl rfl rfl (Nat.le_of_ble_eq_true rfl) (Nat.le_of_ble_eq_true rfl) rfl rfl (fun p1 hz => cS_placesOf hz) hs (fun r19 h19 hs => ?_)
    exact ev_iret rfl dX_rivals_22 hs
  · refine ev_iload_n (pc := 10) dX_rivals_10 2 rfl rfl ?_
    refine ev_goto (pc := 11) (tgt := 22) dX_rivals_11 (by decide) ?_
    exact ev_iret rfl dX_rivals_22 hs
set_option maxHeartbeats 4000000 in
set_option maxRecDepth 100000 in
theorem cX_order {h0 : Hp} {x1 : Int32} {x2 : Int32} {post : Int32 → Hp → Prop} (hs : Sat post (fX_order h0 x1 x2)) : Mt mX_order 12 [.inr 0, .inl x1, .inl x2] h0 post := by
  refine mt_body (L := [(0, .inr 0), (1, .inl x1), (2, .inl x2)]) (by decide +kernel) (Nat.le_of_ble_eq_true rfl) rfl ?_
  refine ev_aload_n (pc := 0) dX_order_0 0 rfl rfl ?_
  refine ev_getR (pc := 1) dX_order_1 lX_12 rfl rfl ?_
  refine ev_iload_n (pc := 4) dX_order_4 1 rfl rfl ?_
  refine ev_callV (pc := 5) (As := [.inl x1]) (S := []) (d2 := 1) dX_order_5 vX_149 zT_hasPlace rfl rfl rfl rfl (Nat.le_of_ble_eq_true rfl) (Nat.le_of_ble_eq_true rfl) rfl rfl (fun p1 hz => cT_hasPlace hz) hs (fun r5 h5 hs => ?_)
  refine ev_if_ne (pc := 8) (tgt := 13) dX_order_8 (by decide) hs (fun hs => ?_) (fun hs => ?_)
  · refine ev_aload_n (pc := 13) dX_order_13 0 rfl rfl ?_
    refine ev_getR (pc := 14) dX_order_14 lX_24 rfl rfl ?_
    refine ev_callVv (pc := 17) (As := []) (S := []) (d2 := 11) dX_order_17 vX_126 zS_settle rfl rfl rfl rfl (Nat.le_of_ble_eq_true rfl) (Nat.le_of_ble_eq_true rfl) rfl rfl (fun p1 hz => cS_settle hz) hs (fun r17 h17 hs => ?_)
    refine ev_aload_n (pc := 20) dX_order_20 0 rfl rfl ?_
    refine ev_getR (pc := 21) dX_order_21 lX_33 rfl rfl ?_
    refine ev_iload_n (pc := 24) dX_order_24 1 rfl rfl ?_
    refine ev_callV (pc := 25) (As := [.inl x1]) (S := []) (d2 := 2) dX_order_25 vX_152 zU_lineUp rfl rfl rfl rfl (Nat.le_of_ble_eq_true rfl) (Nat.le_of_ble_eq_true rfl) rfl rfl (fun p1 hz => cU_lineUp hz) hs (fun r25 h25 hs => ?_)
    refine ev_istore_n (pc := 28) (L' := [(0, .inr 0), (1, .inl x1), (2, .inl x2), (3, .inl r25)]) dX_order_28 rfl rfl (Nat.le_of_ble_eq_true rfl) rfl ?_
    refine ev_iload_n (pc := 29) dX_order_29 2 rfl rfl ?_
    refine ev_iconst (pc := 30) (v := 0) dX_order_30 (by decide) ?_
    refine ev_iload_n (pc := 31) dX_order_31 3 rfl rfl ?_
    refine ev_iconst (pc := 32) (v := 1) dX_order_32 (by decide) ?_
    refine ev_isub (pc := 33) dX_order_33 ?_
    refine ev_callS (pc := 34) (As := [.inl x2, .inl 0, .inl (r25 - 1)]) (S := []) (d2 := 0) dX_order_34 (Or.inl vX_41) zX_isWithin rfl (Nat.le_of_ble_eq_true rfl) (Nat.le_of_ble_eq_true rfl) rfl rfl (fun p1 hz => cX_isWithin hz) hs (fun r34 h34 hs => ?_)
    refine ev_if_eq (pc := 37) (tgt := 52) dX_order_37 (by decide) hs (fun hs => ?_) (fun hs => ?_)
    · refine ev_bipush (pc := 52) (v := (-4)) dX_order_52 (by decide) ?_
      exact ev_iret rfl dX_order_54 hs
    · refine ev_aload_n (pc := 40) dX_order_40 0 rfl rfl ?_
      refine ev_getR (pc := 41) dX_order_41 lX_33 rfl rfl ?_
      refine ev_getR (pc := 44) dX_order_44 lX_155 rfl rfl ?_
      refine ev_iload_n (pc := 47) dX_order_47 2 rfl rfl ?_
      refine ev_iald (pc := 48) dX_order_48 hs (fun r48 hs => ?_)
      refine ev_goto (pc := 49) (tgt := 54) dX_order_49 (by decide) ?_
      exact ev_iret rfl dX_order_54 hs
  · refine ev_iconst (pc := 11) (v := (-1)) dX_order_11 (by decide) ?_
    exact ev_iret rfl dX_order_12 hs
set_option maxHeartbeats 4000000 in
set_option maxRecDepth 100000 in
theorem cX_known {h0 : Hp} {x1 : Int32} {x2 : Int32} {post : Int32 → Hp → Prop} (hs : Sat post (fX_known h0 x1 x2)) : Mt mX_known 12 [.inr 0, .inl x1, .inl x2] h0 post := by
  refine mt_body (L := [(0, .inr 0), (1, .inl x1), (2, .inl x2)]) (by decide +kernel) (Nat.le_of_ble_eq_true rfl) rfl ?_
  refine ev_aload_n (pc := 0) dX_known_0 0 rfl rfl ?_
  refine ev_getR (pc := 1) dX_known_1 lX_12 rfl rfl ?_
  refine ev_iload_n (pc := 4) dX_known_4 1 rfl rfl ?_
  refine ev_callV (pc := 5) (As := [.inl x1]) (S := []) (d2 := 1) dX_known_5 vX_149 zT_hasPlace rfl rfl rfl rfl (Nat.le_of_ble_eq_true rfl) (Nat.le_of_ble_eq_true rfl) rfl rfl (fun p1 hz => cT_hasPlace hz) hs (fun r5 h5 hs => ?_)
  refine ev_if_eq (pc := 8) (tgt := 18) dX_known_8 (by decide) hs (fun hs => ?_) (fun hs => ?_)
  · refine ev_iconst (pc := 18) (v := (-1)) dX_known_18 (by decide) ?_
    exact ev_iret rfl dX_known_19 hs
  · refine ev_iload_n (pc := 11) dX_known_11 2 rfl rfl ?_
    refine ev_callS (pc := 12) (As := [.inl x2]) (S := []) (d2 := 1) dX_known_12 (Or.inl vX_71) zX_isMark rfl (Nat.le_of_ble_eq_true rfl) (Nat.le_of_ble_eq_true rfl) rfl rfl (fun p1 hz => cX_isMark hz) hs (fun r12 h12 hs => ?_)
    refine ev_if_ne (pc := 15) (tgt := 20) dX_known_15 (by decide) hs (fun hs => ?_) (fun hs => ?_)
    · refine ev_aload_n (pc := 20) dX_known_20 0 rfl rfl ?_
      refine ev_getR (pc := 21) dX_known_21 lX_24 rfl rfl ?_
      refine ev_callVv (pc := 24) (As := []) (S := []) (d2 := 11) dX_known_24 vX_126 zS_settle rfl rfl rfl rfl (Nat.le_of_ble_eq_true rfl) (Nat.le_of_ble_eq_true rfl) rfl rfl (fun p1 hz => cS_settle hz) hs (fun r24 h24 hs => ?_)
      refine ev_aload_n (pc := 27) dX_known_27 0 rfl rfl ?_
      refine ev_getR (pc := 28) dX_known_28 lX_33 rfl rfl ?_
      refine ev_aload_n (pc := 31) dX_known_31 0 rfl rfl ?_
      refine ev_getR (pc := 32) dX_known_32 lX_33 rfl rfl ?_
      refine ev_iload_n (pc := 35) dX_known_35 1 rfl rfl ?_
      refine ev_callV (pc := 36) (As := [.inl x1]) (S := [.inr 4]) (d2 := 2) dX_known_36 vX_152 zU_lineUp rfl rfl rfl rfl (Nat.le_of_ble_eq_true rfl) (Nat.le_of_ble_eq_true rfl) rfl rfl (fun p1 hz => cU_lineUp hz) hs (fun r36 h36 hs => ?_)
      refine ev_iload_n (pc := 39) dX_known_39 2 rfl rfl ?_
      refine ev_callV (pc := 40) (As := [.inl r36, .inl x2]) (S := []) (d2 := 2) dX_known_40 vX_158 zU_knownOf rfl rfl rfl rfl (Nat.le_of_ble_eq_true rfl) (Nat.le_of_ble_eq_true rfl) rfl rfl (fun p1 hz => cU_knownOf hz) hs (fun r40 h40 hs => ?_)
      exact ev_iret rfl dX_known_43 hs
    · refine ev_iconst (pc := 18) (v := (-1)) dX_known_18 (by decide) ?_
      exact ev_iret rfl dX_known_19 hs
set_option maxHeartbeats 4000000 in
set_option maxRecDepth 100000 in
theorem cX_changes {h0 : Hp} {x1 : Int32} {x2 : Int32} {post : Int32 → Hp → Prop} (hs : Sat post (fX_changes h0 x1 x2)) : Mt mX_changes 12 [.inr 0, .inl x1, .inl x2] h0 post := by
  refine mt_body (L := [(0, .inr 0), (1, .inl x1), (2, .inl x2)]) (by decide +kernel) (Nat.le_of_ble_eq_true rfl) rfl ?_
  refine ev_aload_n (pc := 0) dX_changes_0 0 rfl rfl ?_
  refine ev_getR (pc := 1) dX_changes_1 lX_12 rfl rfl ?_
  refine ev_iload_n (pc := 4) dX_changes_4 1 rfl rfl ?_
  refine ev_callV (pc := 5) (As := [.inl x1]) (S := []) (d2 := 1) dX_changes_5 vX_149 zT_hasPlace rfl rfl rfl rfl (Nat.le_of_ble_eq_true rfl) (Nat.le_of_ble_eq_true rfl) rfl rfl (fun p1 hz => cT_hasPlace hz) hs (fun r5 h5 hs => ?_)
  refine ev_if_eq (pc := 8) (tgt := 18) dX_changes_8 (by decide) hs (fun hs => ?_) (fun hs => ?_)
  · refine ev_iconst (pc := 18) (v := (-1)) dX_changes_18 (by decide) ?_
    exact ev_iret rfl dX_changes_19 hs
  · refine ev_iload_n (pc := 11) dX_changes_11 2 rfl rfl ?_
    refine ev_callS (pc := 12) (As := [.inl x2]) (S := []) (d2 := 1) dX_changes_12 (Or.inl vX_71) zX_isMark rfl (Nat.le_of_ble_eq_true rfl) (Nat.le_of_ble_eq_true rfl) rfl rfl (fun p1 hz => cX_isMark hz) hs (fun r12 h12 hs => ?_)
    refine ev_if_ne (pc := 15) (tgt := 20) dX_changes_15 (by decide) hs (fun hs => ?_) (fun hs => ?_)
    · refine ev_aload_n (pc := 20) dX_changes_20 0 rfl rfl ?_
      refine ev_getR (pc := 21) dX_changes_21 lX_24 rfl rfl ?_
      refine ev_callVv (pc := 24) (As := []) (S := []) (d2 := 11) dX_changes_24 vX_126 zS_settle rfl rfl rfl rfl (Nat.le_of_ble_eq_true rfl) (Nat.le_of_ble_eq_true rfl) rfl rfl (fun p1 hz => cS_settle hz) hs (fun r24 h24 hs => ?_)
      refine ev_aload_n (pc := 27) dX_changes_27 0 rfl rfl ?_
      refine ev_getR (pc := 28) dX_changes_28 lX_33 rfl rfl ?_
      refine ev_aload_n (pc := 31) dX_changes_31 0 rfl rfl ?_
      refine ev_getR (pc := 32) dX_changes_32 lX_33 rfl rfl ?_
      refine ev_iload_n (pc := 35) dX_changes_35 1 rfl rfl ?_
      refine ev_callV (pc := 36) (As := [.inl x1]) (S := [.inr 4]) (d2 := 2) dX_changes_36 vX_152 zU_lineUp rfl rfl rfl rfl (Nat.le_of_ble_eq_true rfl) (Nat.le_of_ble_eq_true rfl) rfl rfl (fun p1 hz => cU_lineUp hz) hs (fun r36 h36 hs => ?_)
      refine ev_iload_n (pc := 39) dX_changes_39 2 rfl rfl ?_
      refine ev_callV (pc := 40) (As := [.inl r36, .inl x2]) (S := []) (d2 := 2) dX_changes_40 vX_161 zU_changesOf rfl rfl rfl rfl (Nat.le_of_ble_eq_true rfl) (Nat.le_of_ble_eq_true rfl) rfl rfl (fun p1 hz => cU_changesOf hz) hs (fun r40 h40 hs => ?_)
      exact ev_iret rfl dX_changes_43 hs
    · refine ev_iconst (pc := 18) (v := (-1)) dX_changes_18 (by decide) ?_
      exact ev_iret rfl dX_changes_19 hs
set_option maxHeartbeats 4000000 in
set_option maxRecDepth 100000 in
theorem cX_breaks {h0 : Hp} {x1 : Int32} {post : Int32 → Hp → Prop} (hs : Sat post (fX_breaks h0 x1)) : Mt mX_breaks 12 [.inr 0, .inl x1] h0 post := by
  refine mt_body (L := [(0, .inr 0), (1, .inl x1)]) (by decide +kernel) (Nat.le_of_ble_eq_true rfl) rfl ?_
  refine ev_aload_n (pc := 0) dX_breaks_0 0 rfl rfl ?_
  refine ev_getR (pc := 1) dX_breaks_1 lX_12 rfl rfl ?_
  refine ev_iload_n (pc := 4) dX_breaks_4 1 rfl rfl ?_
  refine ev_callV (pc := 5) (As := [.inl x1]) (S := []) (d2 := 1) dX_breaks_5 vX_149 zT_hasPlace rfl rfl rfl rfl (Nat.le_of_ble_eq_true rfl) (Nat.le_of_ble_eq_true rfl) rfl rfl (fun p1 hz => cT_hasPlace hz) hs (fun r5 h5 hs => ?_)
  refine ev_if_ne (pc := 8) (tgt := 13) dX_breaks_8 (by decide) hs (fun hs => ?_) (fun hs => ?_)
  · refine ev_aload_n (pc := 13) dX_breaks_13 0 rfl rfl ?_
    refine ev_getR (pc := 14) dX_breaks_14 lX_24 rfl rfl ?_
    refine ev_callVv (pc := 17) (As := []) (S := []) (d2 := 11) dX_breaks_17 vX_126 zS_settle rfl rfl rfl rfl (Nat.le_of_ble_eq_true rfl) (Nat.le_of_ble_eq_true rfl) rfl rfl (fun p1 hz => cS_settle hz) hs (fun r17 h17 hs => ?_)
    refine ev_aload_n (pc := 20) dX_breaks_20 0 rfl rfl ?_
    refine ev_getR (pc := 21) dX_breaks_21 lX_33 rfl rfl ?_
    refine ev_aload_n (pc := 24) dX_breaks_24 0 rfl rfl ?_
    refine ev_getR (pc := 25) dX_breaks_25 lX_33 rfl rfl ?_
    refine ev_iload_n (pc := 28) dX_breaks_28 1 rfl rfl ?_
    refine ev_callV (pc := 29) (As := [.inl x1]) (S := [.inr 4]) (d2 := 2) dX_breaks_29 vX_152 zU_lineUp rfl rfl rfl rfl (Nat.le_of_ble_eq_true rfl) (Nat.le_of_ble_eq_true rfl) rfl rfl (fun p1 hz => cU_lineUp hz) hs (fun r29 h29 hs => ?_)
    refine ev_callV (pc := 32) (As := [.inl r29]) (S := []) (d2 := 3) dX_breaks_32 vX_164 zU_breaksOf rfl rfl rfl rfl (Nat.le_of_ble_eq_true rfl) (Nat.le_of_ble_eq_true rfl) rfl rfl (fun p1 hz => cU_breaksOf hz) hs (fun r32 h32 hs => ?_)
    exact ev_iret rfl dX_breaks_35 hs
  · refine ev_iconst (pc := 11) (v := (-1)) dX_breaks_11 (by decide) ?_
    exact ev_iret rfl dX_breaks_12 hs
set_option maxHeartbeats 4000000 in
set_option maxRecDepth 100000 in
theorem cX_inverted {h0 : Hp}  {post : Int32 → Hp → Prop} (hs : Sat post (fX_inverted h0 )) : Mt mX_inverted 12 [.inr 0] h0 post := by
  refine mt_body (L := [(0, .inr 0)]) (by decide +kernel) (Nat.le_of_ble_eq_true rfl) rfl ?_
  refine ev_aload_n (pc := 0) dX_inverted_0 0 rfl rfl ?_
  refine ev_getR (pc := 1) dX_inverted_1 lX_24 rfl rfl ?_
  refine ev_callVv (pc := 4) (As := []) (S := []) (d2 := 11) dX_inverted_4 vX_126 zS_settle rfl rfl rfl rfl (Nat.le_of_ble_eq_true rfl) (Nat.le_of_ble_eq_true rfl) rfl rfl (fun p1 hz => cS_settle hz) hs (fun r4 h4 hs => ?_)
  refine ev_aload_n (pc := 7) dX_inverted_7 0 rfl rfl ?_
  refine ev_getR (pc := 8) dX_inverted_8 lX_33 rfl rfl ?_
  refine ev_callV (pc := 11) (As := []) (S := []) (d2 := 3) dX_inverted_11 vX_167 zU_invertedPairs rfl rfl rfl rfl (Nat.le_of_ble_eq_true rfl) (Nat.le_of_ble_eq_true rfl) rfl rfl (fun p1 hz => cU_invertedPairs hz) hs (fun r11 h11 hs => ?_)
  exact ev_iret rfl dX_inverted_14 hs
set_option maxHeartbeats 4000000 in
set_option maxRecDepth 100000 in
theorem cX_span {h0 : Hp} {x1 : Int32} {x2 : Int32} {post : Int32 → Hp → Prop} (hs : Sat post (fX_span h0 x1 x2)) : Mt mX_span 5 [.inr 0, .inl x1, .inl x2] h0 post := by
  refine mt_body (L := [(0, .inr 0), (1, .inl x1), (2, .inl x2)]) (by decide +kernel) (Nat.le_of_ble_eq_true rfl) rfl ?_
  refine ev_iload_n (pc := 0) dX_span_0 1 rfl rfl ?_
  refine ev_callS (pc := 1) (As := [.inl x1]) (S := []) (d2 := 1) dX_span_1 (Or.inl vX_91) zX_isShade rfl (Nat.le_of_ble_eq_true rfl) (Nat.le_of_ble_eq_true rfl) rfl rfl (fun p1 hz => cX_isShade hz) hs (fun r1 h1 hs => ?_)
  refine ev_if_eq (pc := 4) (tgt := 16) dX_span_4 (by decide) hs (fun hs => ?_) (fun hs => ?_)
  · refine ev_iconst (pc := 16) (v := (-1)) dX_span_16 (by decide) ?_
    exact ev_iret rfl dX_span_17 hs
  · refine ev_iload_n (pc := 7) dX_span_7 2 rfl rfl ?_
    refine ev_iconst (pc := 8) (v := 0) dX_span_8 (by decide) ?_
    refine ev_iconst (pc := 9) (v := 2) dX_span_9 (by decide) ?_
    refine ev_callS (pc := 10) (As := [.inl x2, .inl 0, .inl 2]) (S := []) (d2 := 0) dX_span_10 (Or.inl vX_41) zX_isWithin rfl (Nat.le_of_ble_eq_true rfl) (Nat.le_of_ble_eq_true rfl) rfl rfl (fun p1 hz => cX_isWithin hz) hs (fun r10 h10 hs => ?_)
    refine ev_if_ne (pc := 13) (tgt := 18) dX_span_13 (by decide) hs (fun hs => ?_) (fun hs => ?_)
    · refine ev_aload_n (pc := 18) dX_span_18 0 rfl rfl ?_
      refine ev_getR (pc := 19) dX_span_19 lX_12 rfl rfl ?_
      refine ev_iload_n (pc := 22) dX_span_22 1 rfl rfl ?_
      refine ev_callV (pc := 23) (As := [.inl x1]) (S := []) (d2 := 4) dX_span_23 vX_170 zT_datedOf rfl rfl rfl rfl (Nat.le_of_ble_eq_true rfl) (Nat.le_of_ble_eq_true rfl) rfl rfl (fun p1 hz => cT_datedOf hz) hs (fun r23 h23 hs => ?_)
      refine ev_istore_n (pc := 26) (L' := [(0, .inr 0), (1, .inl x1), (2, .inl x2), (3, .inl r23)]) dX_span_26 rfl rfl (Nat.le_of_ble_eq_true rfl) rfl ?_
      refine ev_iload_n (pc := 27) dX_span_27 2 rfl rfl ?_
      refine ev_iconst (pc := 28) (v := 2) dX_span_28 (by decide) ?_
      refine ev_icmp_ne (pc := 29) (tgt := 34) dX_span_29 (by decide) hs (fun hs => ?_) (fun hs => ?_)
      · refine ev_iload_n (pc := 34) dX_span_34 3 rfl rfl ?_
        refine ev_if_ne (pc := 35) (tgt := 41) dX_span_35 (by decide) hs (fun hs => ?_) (fun hs => ?_)
        · refine ev_iload_n (pc := 41) dX_span_41 2 rfl rfl ?_
          refine ev_if_ne (pc := 42) (tgt := 56) dX_span_42 (by decide) hs (fun hs => ?_) (fun hs => ?_)
          · refine ev_aload_n (pc := 56) dX_span_56 0 rfl rfl ?_
            refine ev_getR (pc := 57) dX_span_57 lX_12 rfl rfl ?_
            refine ev_iload_n (pc := 60) dX_span_60 1 rfl rfl ?_
            refine ev_callV (pc := 61) (As := [.inl x1]) (S := []) (d2 := 4) dX_span_61 vX_176 zT_latestOf rfl rfl rfl rfl (Nat.le_of_ble_eq_true rfl) (Nat.le_of_ble_eq_true rfl) rfl rfl (fun p1 hz => cT_latestOf hz) hs (fun r61 h61 hs => ?_)
            exact ev_iret rfl dX_span_64 hs
          · refine ev_aload_n (pc := 45) dX_span_45 0 rfl rfl ?_
            refine ev_getR (pc := 46) dX_span_46 lX_12 rfl rfl ?_
            refine ev_iload_n (pc := 49) dX_span_49 1 rfl rfl ?_
            refine ev_callV (pc := 50) (As := [.inl x1]) (S := []) (d2 := 4) dX_span_50 vX_173 zT_earliestOf rfl rfl rfl rfl (Nat.le_of_ble_eq_true rfl) (Nat.le_of_ble_eq_true rfl) rfl rfl (fun p1 hz => cT_earliestOf hz) hs (fun r50 h50 hs => ?_)
            refine ev_goto (pc := 53) (tgt := 64) dX_span_53 (by decide) ?_
            exact ev_iret rfl dX_span_64 hs
        · refine ev_bipush (pc := 38) (v := (-4)) dX_span_38 (by decide) ?_
          exact ev_iret rfl dX_span_40 hs
      · refine ev_iload_n (pc := 32) dX_span_32 3 rfl rfl ?_
        exact ev_iret rfl dX_span_33 hs
    · refine ev_iconst (pc := 16) (v := (-1)) dX_span_16 (by decide) ?_
      exact ev_iret rfl dX_span_17 hs
set_option maxHeartbeats 4000000 in
set_option maxRecDepth 100000 in
theorem cX_unseen {h0 : Hp} {x1 : Int32} {post : Int32 → Hp → Prop} (hs : Sat post (fX_unseen h0 x1)) : Mt mX_unseen 12 [.inr 0, .inl x1] h0 post := by
  refine mt_body (L := [(0, .inr 0), (1, .inl x1)]) (by decide +kernel) (Nat.le_of_ble_eq_true rfl) rfl ?_
  refine ev_iload_n (pc := 0) dX_unseen_0 1 rfl rfl ?_
  refine ev_iconst (pc := 1) (v := 0) dX_unseen_1 (by decide) ?_
  refine ev_iconst (pc := 2) (v := 2) dX_unseen_2 (by decide) ?_
  refine ev_callS (pc := 3) (As := [.inl x1, .inl 0, .inl 2]) (S := []) (d2 := 0) dX_unseen_3 (Or.inl vX_41) zX_isWithin rfl (Nat.le_of_ble_eq_true rfl) (Nat.le_of_ble_eq_true rfl) rfl rfl (fun p1 hz => cX_isWithin hz) hs (fun r3 h3 hs => ?_)
  refine ev_if_ne (pc := 6) (tgt := 11) dX_unseen_6 (by decide) hs (fun hs => ?_) (fun hs => ?_)
  · refine ev_aload_n (pc := 11) dX_unseen_11 0 rfl rfl ?_
    refine ev_getR (pc := 12) dX_unseen_12 lX_24 rfl rfl ?_
    refine ev_callVv (pc := 15) (As := []) (S := []) (d2 := 11) dX_unseen_15 vX_126 zS_settle rfl rfl rfl rfl (Nat.le_of_ble_eq_true rfl) (Nat.le_of_ble_eq_true rfl) rfl rfl (fun p1 hz => cS_settle hz) hs (fun r15 h15 hs => ?_)
    refine ev_iload_n (pc := 18) dX_unseen_18 1 rfl rfl ?_
    refine ev_if_ne (pc := 19) (tgt := 39) dX_unseen_19 (by decide) hs (fun hs => ?_) (fun hs => ?_)
    · refine ev_aload_n (pc := 39) dX_unseen_39 0 rfl rfl ?_
      refine ev_getR (pc := 40) dX_unseen_40 lX_33 rfl rfl ?_
      refine ev_iconst (pc := 43) (v := 1) dX_unseen_43 (by decide) ?_
      refine ev_callV (pc := 44) (As := [.inl 1]) (S := []) (d2 := 3) dX_unseen_44 vX_179 zU_placesWith rfl rfl rfl rfl (Nat.le_of_ble_eq_true rfl) (Nat.le_of_ble_eq_true rfl) rfl rfl (fun p1 hz => cU_placesWith hz) hs (fun r44 h44 hs => ?_)
      refine ev_istore_n (pc := 47) (L' := [(0, .inr 0), (1, .inl x1), (2, .inl r44)]) dX_unseen_47 rfl rfl (Nat.le_of_ble_eq_true rfl) rfl ?_
      refine ev_aload_n (pc := 48) dX_unseen_48 0 rfl rfl ?_
      refine ev_getR (pc := 49) dX_unseen_49 lX_33 rfl rfl ?_
      refine ev_iconst (pc := 52) (v := 2) dX_unseen_52 (by decide) ?_
      refine ev_callV (pc := 53) (As := [.inl 2]) (S := []) (d2 := 3) dX_unseen_53 vX_179 zU_placesWith rfl rfl rfl rfl (Nat.le_of_ble_eq_true rfl) (Nat.le_of_ble_eq_true rfl) rfl rfl (fun p1 hz => cU_placesWith hz) hs (fun r53 h53 hs => ?_)
      refine ev_istore_n (pc := 56) (L' := [(0, .inr 0), (1, .inl x1), (2, .inl r44), (3, .inl r53)]) dX_unseen_56 rfl rfl (Nat.le_of_ble_eq_true rfl) rfl ?_
      refine ev_iload_n (pc := 57) dX_unseen_57 3 rfl rfl ?_
      refine ev_jn (fun (j : Int32 → Hp → RO) => ∀ (s72 : Int32) (h72 : Hp), Sat post (j s72 h72) → Ev mX_unseen 12 72 [(1, .inl x1), (3, .inl r53)] [.inl s72] h72 post) hs (fun s72 h72 hs => ?_) (fun j72 hj72 hs => ?_)
      · refine ev_istore (pc := 72) (L' := [(1, .inl x1), (3, .inl r53), (4, .inl s72)]) dX_unseen_72 rfl (Nat.le_of_ble_eq_true rfl) rfl ?_
        refine ev_iload_n (pc := 74) dX_unseen_74 1 rfl rfl ?_
        refine ev_jn (fun (j : Int32 → Hp → RO) => ∀ (s85 : Int32) (h85 : Hp), Sat post (j s85 h85) → Ev mX_unseen 12 85 [(1, .inl x1), (4, .inl s72)] [.inl s85] h85 post) hs (fun s85 h85 hs => ?_) (fun j85 hj85 hs => ?_)
        · refine ev_istore (pc := 85) (L' := [(1, .inl x1), (4, .inl s72), (5, .inl s85)]) dX_unseen_85 rfl (Nat.le_of_ble_eq_true rfl) rfl ?_
          refine ev_iload (pc := 87) dX_unseen_87 1 rfl ?_
          refine ev_if_ne (pc := 89) (tgt := 103) dX_unseen_89 (by decide) hs (fun hs => ?_) (fun hs => ?_)
          · refine ev_iload_n (pc := 103) dX_unseen_103 0 rfl rfl ?_
            refine ev_iconst (pc := 104) (v := 1) dX_unseen_104 (by decide) ?_
            refine ev_jn (fun (j : Int32 → Hp → RO) => ∀ (s115 : Int32) (h115 : Hp), Sat post (j s115 h115) → Ev mX_unseen 12 115 [(1, .inl x1), (4, .inl s72), (5, .inl s85)] [.inl s115] h115 post) hs (fun s115 h115 hs => ?_) (fun j115 hj115 hs => ?_)
            · refine ev_iload_n (pc := 115) dX_unseen_115 0 rfl rfl ?_
              refine ev_iconst (pc := 116) (v := 1) dX_unseen_116 (by decide) ?_
              refine ev_jn (fun (j : Int32 → Hp → RO) => ∀ (s127 : Int32) (h127 : Hp), Sat post (j s127 h127) → Ev mX_unseen 12 127 [] [.inl s127, .inl s115] h127 post) hs (fun s127 h127 hs => ?_) (fun j127 hj127 hs => ?_)
              · refine ev_callS (pc := 127) (As := [.inl s115, .inl s127]) (S := []) (d2 := 0) dX_unseen_127 (Or.inl vX_182) zX_cleared rfl (Nat.le_of_ble_eq_true rfl) (Nat.le_of_ble_eq_true rfl) rfl rfl (fun p1 hz => cX_cleared hz) hs (fun r127 h127 hs => ?_)
                exact ev_iret rfl dX_unseen_130 hs
              refine ev_icmp_ne (pc := 117) (tgt := 125) dX_unseen_117 (by decide) hs (fun hs => ?_) (fun hs => ?_)
              · refine ev_iload (pc := 125) dX_unseen_125 1 rfl ?_
                refine ev_sub [] [] rfl ?_
                exact hj127 _ _ hs
              · refine ev_iload (pc := 120) dX_unseen_120 2 rfl ?_
                refine ev_goto (pc := 122) (tgt := 127) dX_unseen_122 (by decide) ?_
                refine ev_sub [] [] rfl ?_
                exact hj127 _ _ hs
            refine ev_icmp_ne (pc := 105) (tgt := 113) dX_unseen_105 (by decide) hs (fun hs => ?_) (fun hs => ?_)
            · refine ev_iload (pc := 113) dX_unseen_113 2 rfl ?_
              exact hj115 _ _ hs
            · refine ev_iload (pc := 108) dX_unseen_108 1 rfl ?_
              refine ev_goto (pc := 110) (tgt := 115) dX_unseen_110 (by decide) ?_
              exact hj115 _ _ hs
          · refine ev_iload_n (pc := 92) dX_unseen_92 0 rfl rfl ?_
            refine ev_iconst (pc := 93) (v := 1) dX_unseen_93 (by decide) ?_
            refine ev_icmp_ne (pc := 94) (tgt := 101) dX_unseen_94 (by decide) hs (fun hs => ?_) (fun hs => ?_)
            · refine ev_iconst (pc := 101) (v := 1) dX_unseen_101 (by decide) ?_
              exact ev_iret rfl dX_unseen_102 hs
            · refine ev_iconst (pc := 97) (v := 0) dX_unseen_97 (by decide) ?_
              refine ev_goto (pc := 98) (tgt := 102) dX_unseen_98 (by decide) ?_
              exact ev_iret rfl dX_unseen_102 hs
        refine ev_if_le (pc := 75) (tgt := 84) dX_unseen_75 (by decide) hs (fun hs => ?_) (fun hs => ?_)
        · refine ev_iconst (pc := 84) (v := 2) dX_unseen_84 (by decide) ?_
          refine ev_sub [(1, .inl x1), (4, .inl s72)] [0, 2] rfl ?_
          exact hj85 _ _ hs
        · refine ev_iconst (pc := 78) (v := 2) dX_unseen_78 (by decide) ?_
          refine ev_iload_n (pc := 79) dX_unseen_79 1 rfl rfl ?_
          refine ev_imul (pc := 80) dX_unseen_80 ?_
          refine ev_goto (pc := 81) (tgt := 85) dX_unseen_81 (by decide) ?_
          refine ev_sub [(1, .inl x1), (4, .inl s72)] [0, 2] rfl ?_
          exact hj85 _ _ hs
      refine ev_if_le (pc := 58) (tgt := 67) dX_unseen_58 (by decide) hs (fun hs => ?_) (fun hs => ?_)
      · refine ev_iload_n (pc := 67) dX_unseen_67 2 rfl rfl ?_
        refine ev_iload_n (pc := 68) dX_unseen_68 2 rfl rfl ?_
        refine ev_iconst (pc := 69) (v := 1) dX_unseen_69 (by decide) ?_
        refine ev_isub (pc := 70) dX_unseen_70 ?_
        refine ev_imul (pc := 71) dX_unseen_71 ?_
        refine ev_sub [(1, .inl x1), (3, .inl r53)] [1, 3] rfl ?_
        exact hj72 _ _ hs
      · refine ev_iload_n (pc := 61) dX_unseen_61 2 rfl rfl ?_
        refine ev_iload_n (pc := 62) dX_unseen_62 2 rfl rfl ?_
        refine ev_imul (pc := 63) dX_unseen_63 ?_
        refine ev_goto (pc := 64) (tgt := 72) dX_unseen_64 (by decide) ?_
        refine ev_sub [(1, .inl x1), (3, .inl r53)] [1, 3] rfl ?_
        exact hj72 _ _ hs
    · refine ev_aload_n (pc := 22) dX_unseen_22 0 rfl rfl ?_
      refine ev_getR (pc := 23) dX_unseen_23 lX_12 rfl rfl ?_
      refine ev_callV (pc := 26) (As := []) (S := []) (d2 := 0) dX_unseen_26 vX_52 zT_places rfl rfl rfl rfl (Nat.le_of_ble_eq_true rfl) (Nat.le_of_ble_eq_true rfl) rfl rfl (fun p1 hz => cT_places hz) hs (fun r26 h26 hs => ?_)
      refine ev_aload_n (pc := 29) dX_unseen_29 0 rfl rfl ?_
      refine ev_getR (pc := 30) dX_unseen_30 lX_33 rfl rfl ?_
      refine ev_iconst (pc := 33) (v := 0) dX_unseen_33 (by decide) ?_
      refine ev_callV (pc := 34) (As := [.inl 0]) (S := [.inl r26]) (d2 := 3) dX_unseen_34 vX_179 zU_placesWith rfl rfl rfl rfl (Nat.le_of_ble_eq_true rfl) (Nat.le_of_ble_eq_true rfl) rfl rfl (fun p1 hz => cU_placesWith hz) hs (fun r34 h34 hs => ?_)
      refine ev_isub (pc := 37) dX_unseen_37 ?_
      exact ev_iret rfl dX_unseen_38 hs
  · refine ev_iconst (pc := 9) (v := (-1)) dX_unseen_9 (by decide) ?_
    exact ev_iret rfl dX_unseen_10 hs
set_option maxHeartbeats 4000000 in
set_option maxRecDepth 100000 in
theorem cX_many {h0 : Hp} {x1 : Int32} {post : Int32 → Hp → Prop} (hs : Sat post (fX_many h0 x1)) : Mt mX_many 12 [.inr 0, .inl x1] h0 post := by
  refine mt_body (L := [(0, .inr 0), (1, .inl x1)]) (by decide +kernel) (Nat.le_of_ble_eq_true rfl) rfl ?_
  refine ev_iload_n (pc := 0) dX_many_0 1 rfl rfl ?_
  refine ev_tsw (pc := 1) (n := 7) (dt := 107) [44, 52, 60, 68, 76, 84, 92] dX_many_1 rfl (by decide) (by decide) rfl (by decide +kernel) (by decide) hs ?_ (fun hs => ?_)
  · intro j a t ha ht hs
    match j, ha, ht with
    | 0, ha, ht =>
      cases ha
      cases ht
      refine ev_aload_n (pc := 44) dX_many_44 0 rfl rfl ?_
      refine ev_getR (pc := 45) dX_many_45 lX_12 rfl rfl ?_
      refine ev_callV (pc := 48) (As := []) (S := []) (d2 := 0) dX_many_48 vX_52 zT_places rfl rfl rfl rfl (Nat.le_of_ble_eq_true rfl) (Nat.le_of_ble_eq_true rfl) rfl rfl (fun p1 hz => cT_places hz) hs (fun r48 h48 hs => ?_)
      exact ev_iret rfl dX_many_51 hs
    | 1, ha, ht =>
      cases ha
      cases ht
      refine ev_aload_n (pc := 52) dX_many_52 0 rfl rfl ?_
      refine ev_getR (pc := 53) dX_many_53 lX_12 rfl rfl ?_
      refine ev_getI (pc := 56) dX_many_56 lX_56 rfl rfl ?_
      exact ev_iret rfl dX_many_59 hs
    | 2, ha, ht =>
      cases ha
      cases ht
      refine ev_aload_n (pc := 60) dX_many_60 0 rfl rfl ?_
      refine ev_getR (pc := 61) dX_many_61 lX_12 rfl rfl ?_
      refine ev_getI (pc := 64) dX_many_64 lX_185 rfl rfl ?_
      exact ev_iret rfl dX_many_67 hs
    | 3, ha, ht =>
      cases ha
      cases ht
      refine ev_aload_n (pc := 68) dX_many_68 0 rfl rfl ?_
      refine ev_getR (pc := 69) dX_many_69 lX_12 rfl rfl ?_
      refine ev_getI (pc := 72) dX_many_72 lX_108 rfl rfl ?_
      exact ev_iret rfl dX_many_75 hs
    | 4, ha, ht =>
      cases ha
      cases ht
      refine ev_aload_n (pc := 76) dX_many_76 0 rfl rfl ?_
      refine ev_getR (pc := 77) dX_many_77 lX_12 rfl rfl ?_
      refine ev_callV (pc := 80) (As := []) (S := []) (d2 := 2) dX_many_80 vX_188 zT_forgedPieces rfl rfl rfl rfl (Nat.le_of_ble_eq_true rfl) (Nat.le_of_ble_eq_true rfl) rfl rfl (fun p1 hz => cT_forgedPieces hz) hs (fun r80 h80 hs => ?_)
      exact ev_iret rfl dX_many_83 hs
    | 5, ha, ht =>
      cases ha
      cases ht
      refine ev_aload_n (pc := 84) dX_many_84 0 rfl rfl ?_
      refine ev_getR (pc := 85) dX_many_85 lX_12 rfl rfl ?_
      refine ev_callV (pc := 88) (As := []) (S := []) (d2 := 3) dX_many_88 vX_191 zT_takingPieces rfl rfl rfl rfl (Nat.le_of_ble_eq_true rfl) (Nat.le_of_ble_eq_true rfl) rfl rfl (fun p1 hz => cT_takingPieces hz) hs (fun r88 h88 hs => ?_)
      exact ev_iret rfl dX_many_91 hs
    | 6, ha, ht =>
      cases ha
      cases ht
      refine ev_aload_n (pc := 92) dX_many_92 0 rfl rfl ?_
      refine ev_getR (pc := 93) dX_many_93 lX_24 rfl rfl ?_
      refine ev_callVv (pc := 96) (As := []) (S := []) (d2 := 11) dX_many_96 vX_126 zS_settle rfl rfl rfl rfl (Nat.le_of_ble_eq_true rfl) (Nat.le_of_ble_eq_true rfl) rfl rfl (fun p1 hz => cS_settle hz) hs (fun r96 h96 hs => ?_)
      refine ev_aload_n (pc := 99) dX_many_99 0 rfl rfl ?_
      refine ev_getR (pc := 100) dX_many_100 lX_33 rfl rfl ?_
      refine ev_callV (pc := 103) (As := []) (S := []) (d2 := 0) dX_many_103 vX_194 zU_copies rfl rfl rfl rfl (Nat.le_of_ble_eq_true rfl) (Nat.le_of_ble_eq_true rfl) rfl rfl (fun p1 hz => cU_copies hz) hs (fun r103 h103 hs => ?_)
      exact ev_iret rfl dX_many_106 hs
    | j + 7, ha, ht => exact absurd ht (by simp)
  · refine ev_iconst (pc := 107) (v := (-1)) dX_many_107 (by decide) ?_
    exact ev_iret rfl dX_many_108 hs
set_option maxHeartbeats 4000000 in
set_option maxRecDepth 100000 in
theorem cX_keep {h0 : Hp}  {post : Int32 → Hp → Prop} (hs : Sat post (fX_keep h0 )) : Mt mX_keep 2 [.inr 0] h0 post := by
  refine mt_body (L := [(0, .inr 0)]) (by decide +kernel) (Nat.le_of_ble_eq_true rfl) rfl ?_
  refine ev_aload_n (pc := 0) dX_keep_0 0 rfl rfl ?_
  refine ev_getR (pc := 1) dX_keep_1 lX_16 rfl rfl ?_
  refine ev_aload_n (pc := 4) dX_keep_4 0 rfl rfl ?_
  refine ev_getR (pc := 5) dX_keep_5 lX_12 rfl rfl ?_
  refine ev_callVv (pc := 8) (As := [.inr 1]) (S := []) (d2 := 1) dX_keep_8 vX_196 zT_copyFrom rfl rfl rfl rfl (Nat.le_of_ble_eq_true rfl) (Nat.le_of_ble_eq_true rfl) rfl rfl (fun p1 hz => cT_copyFrom_2_1 hz) hs (fun r8 h8 hs => ?_)
  refine ev_aload_n (pc := 11) dX_keep_11 0 rfl rfl ?_
  refine ev_iconst (pc := 12) (v := 1) dX_keep_12 (by decide) ?_
  refine ev_putZ (pc := 13) dX_keep_13 lX_37 w4_4 rfl rfl hs (fun h13 hs => ?_)
  refine ev_iconst (pc := 16) (v := 1) dX_keep_16 (by decide) ?_
  exact ev_iret rfl dX_keep_17 hs
set_option maxHeartbeats 4000000 in
set_option maxRecDepth 100000 in
theorem cX_back {h0 : Hp}  {post : Int32 → Hp → Prop} (hs : Sat post (fX_back h0 )) : Mt mX_back 2 [.inr 0] h0 post := by
  refine mt_body (L := [(0, .inr 0)]) (by decide +kernel) (Nat.le_of_ble_eq_true rfl) rfl ?_
  refine ev_aload_n (pc := 0) dX_back_0 0 rfl rfl ?_
  refine ev_getI (pc := 1) dX_back_1 lX_37 rfl rfl ?_
  refine ev_if_ne (pc := 4) (tgt := 10) dX_back_4 (by decide) hs (fun hs => ?_) (fun hs => ?_)
  · refine ev_aload_n (pc := 10) dX_back_10 0 rfl rfl ?_
    refine ev_getR (pc := 11) dX_back_11 lX_12 rfl rfl ?_
    refine ev_aload_n (pc := 14) dX_back_14 0 rfl rfl ?_
    refine ev_getR (pc := 15) dX_back_15 lX_16 rfl rfl ?_
    refine ev_callVv (pc := 18) (As := [.inr 2]) (S := []) (d2 := 1) dX_back_18 vX_196 zT_copyFrom rfl rfl rfl rfl (Nat.le_of_ble_eq_true rfl) (Nat.le_of_ble_eq_true rfl) rfl rfl (fun p1 hz => cT_copyFrom_1_2 hz) hs (fun r18 h18 hs => ?_)
    refine ev_aload_n (pc := 21) dX_back_21 0 rfl rfl ?_
    refine ev_getR (pc := 22) dX_back_22 lX_24 rfl rfl ?_
    refine ev_callVv (pc := 25) (As := []) (S := []) (d2 := 0) dX_back_25 vX_49 zS_forget rfl rfl rfl rfl (Nat.le_of_ble_eq_true rfl) (Nat.le_of_ble_eq_true rfl) rfl rfl (fun p1 hz => cS_forget hz) hs (fun r25 h25 hs => ?_)
    refine ev_iconst (pc := 28) (v := 1) dX_back_28 (by decide) ?_
    exact ev_iret rfl dX_back_29 hs
  · refine ev_bipush (pc := 7) (v := (-4)) dX_back_7 (by decide) ?_
    exact ev_iret rfl dX_back_9 hs
