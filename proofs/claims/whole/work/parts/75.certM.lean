/-! CERTIFICATES: the methods do what their functions say: printed by a program of mine -/
set_option maxHeartbeats 4000000 in
set_option maxRecDepth 100000 in
theorem cM_in {h0 : Hp} {x0 : Int32} {x1 : Int32} {x2 : Int32} {post : Int32 → Hp → Prop} (hs : Sat post (fM_in h0 x0 x1 x2)) : Mt mM_in 0 [.inl x0, .inl x1, .inl x2] h0 post := by
  refine mt_body (L := [(0, .inl x0), (1, .inl x1), (2, .inl x2)]) (by decide +kernel) (Nat.le_of_ble_eq_true rfl) rfl ?_
  refine ev_iload_n (pc := 0) dM_in_0 0 rfl rfl ?_
  refine ev_iload_n (pc := 1) dM_in_1 1 rfl rfl ?_
  refine ev_icmp_lt (pc := 2) (tgt := 14) dM_in_2 (by decide) hs (fun hs => ?_) (fun hs => ?_)
  · refine ev_iconst (pc := 14) (v := 0) dM_in_14 (by decide) ?_
    exact ev_zret rfl dM_in_15 hs
  · refine ev_iload_n (pc := 5) dM_in_5 0 rfl rfl ?_
    refine ev_iload_n (pc := 6) dM_in_6 2 rfl rfl ?_
    refine ev_icmp_gt (pc := 7) (tgt := 14) dM_in_7 (by decide) hs (fun hs => ?_) (fun hs => ?_)
    · refine ev_iconst (pc := 14) (v := 0) dM_in_14 (by decide) ?_
      exact ev_zret rfl dM_in_15 hs
    · refine ev_iconst (pc := 10) (v := 1) dM_in_10 (by decide) ?_
      refine ev_goto (pc := 11) (tgt := 15) dM_in_11 (by decide) ?_
      exact ev_zret rfl dM_in_15 hs
set_option maxHeartbeats 4000000 in
set_option maxRecDepth 100000 in
theorem cM_sheet {h0 : Hp} {x1 : Int32} {x2 : Int32} {post : Int32 → Hp → Prop} (hs : Sat post (fM_sheet h0 x1 x2)) : Mt mM_sheet 1 [.inr 28, .inl x1, .inl x2] h0 post := by
  refine mt_body (L := [(0, .inr 28), (1, .inl x1), (2, .inl x2)]) (by decide +kernel) (Nat.le_of_ble_eq_true rfl) rfl ?_
  refine ev_iload_n (pc := 0) dM_sheet_0 1 rfl rfl ?_
  refine ev_iconst (pc := 1) (v := 1) dM_sheet_1 (by decide) ?_
  refine ev_iconst (pc := 2) (v := 3) dM_sheet_2 (by decide) ?_
  refine ev_callS (pc := 3) (As := [.inl x1, .inl 1, .inl 3]) (S := []) (d2 := 0) dM_sheet_3 (Or.inl vM_99) zM_in rfl (Nat.le_of_ble_eq_true rfl) (Nat.le_of_ble_eq_true rfl) rfl rfl (fun p1 hz => cM_in hz) hs (fun r3 h3 hs => ?_)
  refine ev_if_eq (pc := 6) (tgt := 26) dM_sheet_6 (by decide) hs (fun hs => ?_) (fun hs => ?_)
  · refine ev_iconst (pc := 26) (v := (-1)) dM_sheet_26 (by decide) ?_
    exact ev_iret rfl dM_sheet_27 hs
  · refine ev_iload_n (pc := 9) dM_sheet_9 2 rfl rfl ?_
    refine ev_iconst (pc := 10) (v := 1) dM_sheet_10 (by decide) ?_
    refine ev_iconst (pc := 11) (v := 4) dM_sheet_11 (by decide) ?_
    refine ev_callS (pc := 12) (As := [.inl x2, .inl 1, .inl 4]) (S := []) (d2 := 0) dM_sheet_12 (Or.inl vM_99) zM_in rfl (Nat.le_of_ble_eq_true rfl) (Nat.le_of_ble_eq_true rfl) rfl rfl (fun p1 hz => cM_in hz) hs (fun r12 h12 hs => ?_)
    refine ev_if_eq (pc := 15) (tgt := 26) dM_sheet_15 (by decide) hs (fun hs => ?_) (fun hs => ?_)
    · refine ev_iconst (pc := 26) (v := (-1)) dM_sheet_26 (by decide) ?_
      exact ev_iret rfl dM_sheet_27 hs
    · refine ev_iload_n (pc := 18) dM_sheet_18 1 rfl rfl ?_
      refine ev_iload_n (pc := 19) dM_sheet_19 2 rfl rfl ?_
      refine ev_imul (pc := 20) dM_sheet_20 ?_
      refine ev_bipush (pc := 21) (v := 9) dM_sheet_21 (by decide) ?_
      refine ev_icmp_le (pc := 23) (tgt := 28) dM_sheet_23 (by decide) hs (fun hs => ?_) (fun hs => ?_)
      · refine ev_aload_n (pc := 28) dM_sheet_28 0 rfl rfl ?_
        refine ev_iload_n (pc := 29) dM_sheet_29 1 rfl rfl ?_
        refine ev_putI (pc := 30) dM_sheet_30 lM_7 w5_0 rfl rfl hs (fun h30 hs => ?_)
        refine ev_aload_n (pc := 33) dM_sheet_33 0 rfl rfl ?_
        refine ev_iload_n (pc := 34) dM_sheet_34 2 rfl rfl ?_
        refine ev_putI (pc := 35) dM_sheet_35 lM_13 w5_1 rfl rfl hs (fun h35 hs => ?_)
        refine ev_aload_n (pc := 38) dM_sheet_38 0 rfl rfl ?_
        refine ev_iconst (pc := 39) (v := 0) dM_sheet_39 (by decide) ?_
        refine ev_putI (pc := 40) dM_sheet_40 lM_103 w5_2 rfl rfl hs (fun h40 hs => ?_)
        refine ev_aload_n (pc := 43) dM_sheet_43 0 rfl rfl ?_
        refine ev_iconst (pc := 44) (v := 0) dM_sheet_44 (by decide) ?_
        refine ev_putI (pc := 45) dM_sheet_45 lM_96 w5_8 rfl rfl hs (fun h45 hs => ?_)
        refine ev_iload_n (pc := 48) dM_sheet_48 1 rfl rfl ?_
        refine ev_iload_n (pc := 49) dM_sheet_49 2 rfl rfl ?_
        refine ev_imul (pc := 50) dM_sheet_50 ?_
        exact ev_iret rfl dM_sheet_51 hs
      · refine ev_iconst (pc := 26) (v := (-1)) dM_sheet_26 (by decide) ?_
        exact ev_iret rfl dM_sheet_27 hs
set_option maxHeartbeats 4000000 in
set_option maxRecDepth 100000 in
theorem cM_piece_L121 {k150 : Hp → RO} {x1 : Int32} {x2 : Int32} {x4 : Int32} {post : Int32 → Hp → Prop} (hk150 : ∀  (h : Hp), Sat post (k150 h) → Ev mM_piece 1 150 [(0, .inr 28), (1, .inl x1), (2, .inl x2), (4, .inl x4)] [] h post) : ∀ (n : Nat) (x5_121 : Int32) (h121 : Hp), Sat post (fM_piece_L121 k150 x1 x2 x4 n x5_121 h121) → Ev mM_piece 1 121 [(0, .inr 28), (1, .inl x1), (2, .inl x2), (4, .inl x4), (5, .inl x5_121)] [] h121 post := by
  intro n
  induction n with
  | zero =>
    intro x5_121 h121 hs
    exact False.elim hs
  | succ n ih =>
    intro x5_121 h121 hs
    refine ev_iload (pc := 121) dM_piece_121 4 rfl ?_
    refine ev_bipush (pc := 123) (v := 8) dM_piece_123 (by decide) ?_
    refine ev_icmp_ge (pc := 125) (tgt := 150) dM_piece_125 (by decide) hs (fun hs => ?_) (fun hs => ?_)
    · refine ev_sub [(0, .inr 28), (1, .inl x1), (2, .inl x2), (4, .inl x4)] [0, 1, 2, 3] rfl ?_
      exact hk150 _ hs
    · refine ev_aload_n (pc := 128) dM_piece_128 0 rfl rfl ?_
      refine ev_getR (pc := 129) dM_piece_129 lM_36 rfl rfl ?_
      refine ev_bipush (pc := 132) (v := 8) dM_piece_132 (by decide) ?_
      refine ev_aload_n (pc := 134) dM_piece_134 0 rfl rfl ?_
      refine ev_getI (pc := 135) dM_piece_135 lM_96 rfl rfl ?_
      refine ev_imul (pc := 138) dM_piece_138 ?_
      refine ev_iload (pc := 139) dM_piece_139 4 rfl ?_
      refine ev_iadd (pc := 141) dM_piece_141 ?_
      refine ev_iconst (pc := 142) (v := 2) dM_piece_142 (by decide) ?_
      refine ev_iast (pc := 143) dM_piece_143 hs (fun h143 hs => ?_)
      refine ev_iinc (pc := 144) (L' := [(0, .inr 28), (1, .inl x1), (2, .inl x2), (4, .inl x4), (5, .inl (x5_121 + 1))]) (v := (x5_121 + 1)) dM_piece_144 4 rfl (congrArg (HAdd.hAdd _) (by decide)) rfl (Nat.le_of_ble_eq_true rfl) rfl ?_
      refine ev_goto (pc := 147) (tgt := 121) dM_piece_147 (by decide) ?_
      exact ih _ _ hs
set_option maxHeartbeats 4000000 in
set_option maxRecDepth 100000 in
theorem cM_piece_L97 {k216 : Hp → RO} {x1 : Int32} {x2 : Int32} {post : Int32 → Hp → Prop} (hk216 : ∀  (h : Hp), Sat post (k216 h) → Ev mM_piece 1 216 [(0, .inr 28)] [] h post) : ∀ (n : Nat) (x4_97 : Int32) (h97 : Hp), Sat post (fM_piece_L97 k216 x1 x2 n x4_97 h97) → Ev mM_piece 1 97 [(0, .inr 28), (1, .inl x1), (2, .inl x2), (4, .inl x4_97)] [] h97 post := by
  intro n
  induction n with
  | zero =>
    intro x4_97 h97 hs
    exact False.elim hs
  | succ n ih =>
    intro x4_97 h97 hs
    refine ev_iload (pc := 97) dM_piece_97 3 rfl ?_
    refine ev_iload_n (pc := 99) dM_piece_99 1 rfl rfl ?_
    refine ev_iload_n (pc := 100) dM_piece_100 2 rfl rfl ?_
    refine ev_imul (pc := 101) dM_piece_101 ?_
    refine ev_icmp_ge (pc := 102) (tgt := 216) dM_piece_102 (by decide) hs (fun hs => ?_) (fun hs => ?_)
    · refine ev_sub [(0, .inr 28)] [0] rfl ?_
      exact hk216 _ hs
    · refine ev_aload_n (pc := 105) dM_piece_105 0 rfl rfl ?_
      refine ev_getR (pc := 106) dM_piece_106 lM_33 rfl rfl ?_
      refine ev_aload_n (pc := 109) dM_piece_109 0 rfl rfl ?_
      refine ev_getI (pc := 110) dM_piece_110 lM_96 rfl rfl ?_
      refine ev_aload_n (pc := 113) dM_piece_113 0 rfl rfl ?_
      refine ev_getI (pc := 114) dM_piece_114 lM_103 rfl rfl ?_
      refine ev_iast (pc := 117) dM_piece_117 hs (fun h117 hs => ?_)
      refine ev_iconst (pc := 118) (v := 0) dM_piece_118 (by decide) ?_
      refine ev_istore (pc := 119) (L' := [(0, .inr 28), (1, .inl x1), (2, .inl x2), (4, .inl x4_97), (5, .inl 0)]) dM_piece_119 rfl (Nat.le_of_ble_eq_true rfl) rfl ?_
      refine cM_piece_L121 (fun h150 hs => ?_) _ _ _ hs
      refine ev_aload_n (pc := 150) dM_piece_150 0 rfl rfl ?_
      refine ev_getR (pc := 151) dM_piece_151 lM_39 rfl rfl ?_
      refine ev_aload_n (pc := 154) dM_piece_154 0 rfl rfl ?_
      refine ev_getI (pc := 155) dM_piece_155 lM_96 rfl rfl ?_
      refine ev_iconst (pc := 158) (v := (-1)) dM_piece_158 (by decide) ?_
      refine ev_iast (pc := 159) dM_piece_159 hs (fun h159 hs => ?_)
      refine ev_aload_n (pc := 160) dM_piece_160 0 rfl rfl ?_
      refine ev_getR (pc := 161) dM_piece_161 lM_42 rfl rfl ?_
      refine ev_aload_n (pc := 164) dM_piece_164 0 rfl rfl ?_
      refine ev_getI (pc := 165) dM_piece_165 lM_96 rfl rfl ?_
      refine ev_iconst (pc := 168) (v := (-1)) dM_piece_168 (by decide) ?_
      refine ev_iast (pc := 169) dM_piece_169 hs (fun h169 hs => ?_)
      refine ev_aload_n (pc := 170) dM_piece_170 0 rfl rfl ?_
      refine ev_getR (pc := 171) dM_piece_171 lM_45 rfl rfl ?_
      refine ev_aload_n (pc := 174) dM_piece_174 0 rfl rfl ?_
      refine ev_getI (pc := 175) dM_piece_175 lM_96 rfl rfl ?_
      refine ev_iconst (pc := 178) (v := 0) dM_piece_178 (by decide) ?_
      refine ev_iast (pc := 179) dM_piece_179 hs (fun h179 hs => ?_)
      refine ev_aload_n (pc := 180) dM_piece_180 0 rfl rfl ?_
      refine ev_getR (pc := 181) dM_piece_181 lM_48 rfl rfl ?_
      refine ev_aload_n (pc := 184) dM_piece_184 0 rfl rfl ?_
      refine ev_getI (pc := 185) dM_piece_185 lM_96 rfl rfl ?_
      refine ev_iconst (pc := 188) (v := (-1)) dM_piece_188 (by decide) ?_
      refine ev_iast (pc := 189) dM_piece_189 hs (fun h189 hs => ?_)
      refine ev_aload_n (pc := 190) dM_piece_190 0 rfl rfl ?_
      refine ev_getR (pc := 191) dM_piece_191 lM_51 rfl rfl ?_
      refine ev_aload_n (pc := 194) dM_piece_194 0 rfl rfl ?_
      refine ev_getI (pc := 195) dM_piece_195 lM_96 rfl rfl ?_
      refine ev_iconst (pc := 198) (v := 0) dM_piece_198 (by decide) ?_
      refine ev_iast (pc := 199) dM_piece_199 hs (fun h199 hs => ?_)
      refine ev_aload_n (pc := 200) dM_piece_200 0 rfl rfl ?_
      refine ev_dup (pc := 201) dM_piece_201 ?_
      refine ev_getI (pc := 202) dM_piece_202 lM_96 rfl rfl ?_
      refine ev_iconst (pc := 205) (v := 1) dM_piece_205 (by decide) ?_
      refine ev_iadd (pc := 206) dM_piece_206 ?_
      refine ev_putI (pc := 207) dM_piece_207 lM_96 w5_8 rfl rfl hs (fun h207 hs => ?_)
      refine ev_iinc (pc := 210) (L' := [(0, .inr 28), (1, .inl x1), (2, .inl x2), (4, .inl (x4_97 + 1))]) (v := (x4_97 + 1)) dM_piece_210 3 rfl (congrArg (HAdd.hAdd _) (by decide)) rfl (Nat.le_of_ble_eq_true rfl) rfl ?_
      refine ev_goto (pc := 213) (tgt := 97) dM_piece_213 (by decide) ?_
      exact ih _ _ hs
set_option maxHeartbeats 4000000 in
set_option maxRecDepth 100000 in
theorem cM_piece {h0 : Hp} {x1 : Int32} {x2 : Int32} {x3 : Int32} {post : Int32 → Hp → Prop} (hs : Sat post (fM_piece h0 x1 x2 x3)) : Mt mM_piece 1 [.inr 28, .inl x1, .inl x2, .inl x3] h0 post := by
  refine mt_body (L := [(0, .inr 28), (1, .inl x1), (2, .inl x2), (3, .inl x3)]) (by decide +kernel) (Nat.le_of_ble_eq_true rfl) rfl ?_
  refine ev_iload_n (pc := 0) dM_piece_0 1 rfl rfl ?_
  refine ev_iconst (pc := 1) (v := 1) dM_piece_1 (by decide) ?_
  refine ev_iconst (pc := 2) (v := 2) dM_piece_2 (by decide) ?_
  refine ev_callS (pc := 3) (As := [.inl x1, .inl 1, .inl 2]) (S := []) (d2 := 0) dM_piece_3 (Or.inl vM_99) zM_in rfl (Nat.le_of_ble_eq_true rfl) (Nat.le_of_ble_eq_true rfl) rfl rfl (fun p1 hz => cM_in hz) hs (fun r3 h3 hs => ?_)
  refine ev_if_eq (pc := 6) (tgt := 28) dM_piece_6 (by decide) hs (fun hs => ?_) (fun hs => ?_)
  · refine ev_iconst (pc := 28) (v := (-1)) dM_piece_28 (by decide) ?_
    exact ev_iret rfl dM_piece_29 hs
  · refine ev_iload_n (pc := 9) dM_piece_9 2 rfl rfl ?_
    refine ev_iconst (pc := 10) (v := 1) dM_piece_10 (by decide) ?_
    refine ev_iconst (pc := 11) (v := 3) dM_piece_11 (by decide) ?_
    refine ev_callS (pc := 12) (As := [.inl x2, .inl 1, .inl 3]) (S := []) (d2 := 0) dM_piece_12 (Or.inl vM_99) zM_in rfl (Nat.le_of_ble_eq_true rfl) (Nat.le_of_ble_eq_true rfl) rfl rfl (fun p1 hz => cM_in hz) hs (fun r12 h12 hs => ?_)
    refine ev_if_eq (pc := 15) (tgt := 28) dM_piece_15 (by decide) hs (fun hs => ?_) (fun hs => ?_)
    · refine ev_iconst (pc := 28) (v := (-1)) dM_piece_28 (by decide) ?_
      exact ev_iret rfl dM_piece_29 hs
    · refine ev_iload_n (pc := 18) dM_piece_18 3 rfl rfl ?_
      refine ev_iconst (pc := 19) (v := 0) dM_piece_19 (by decide) ?_
      refine ev_bipush (pc := 20) (v := 15) dM_piece_20 (by decide) ?_
      refine ev_callS (pc := 22) (As := [.inl x3, .inl 0, .inl 15]) (S := []) (d2 := 0) dM_piece_22 (Or.inl vM_99) zM_in rfl (Nat.le_of_ble_eq_true rfl) (Nat.le_of_ble_eq_true rfl) rfl rfl (fun p1 hz => cM_in hz) hs (fun r22 h22 hs => ?_)
      refine ev_if_ne (pc := 25) (tgt := 30) dM_piece_25 (by decide) hs (fun hs => ?_) (fun hs => ?_)
      · refine ev_aload_n (pc := 30) dM_piece_30 0 rfl rfl ?_
        refine ev_getI (pc := 31) dM_piece_31 lM_103 rfl rfl ?_
        refine ev_iconst (pc := 34) (v := 5) dM_piece_34 (by decide) ?_
        refine ev_icmp_ne (pc := 35) (tgt := 41) dM_piece_35 (by decide) hs (fun hs => ?_) (fun hs => ?_)
        · refine ev_aload_n (pc := 41) dM_piece_41 0 rfl rfl ?_
          refine ev_getR (pc := 42) dM_piece_42 lM_16 rfl rfl ?_
          refine ev_aload_n (pc := 45) dM_piece_45 0 rfl rfl ?_
          refine ev_getI (pc := 46) dM_piece_46 lM_103 rfl rfl ?_
          refine ev_iload_n (pc := 49) dM_piece_49 1 rfl rfl ?_
          refine ev_iast (pc := 50) dM_piece_50 hs (fun h50 hs => ?_)
          refine ev_aload_n (pc := 51) dM_piece_51 0 rfl rfl ?_
          refine ev_getR (pc := 52) dM_piece_52 lM_20 rfl rfl ?_
          refine ev_aload_n (pc := 55) dM_piece_55 0 rfl rfl ?_
          refine ev_getI (pc := 56) dM_piece_56 lM_103 rfl rfl ?_
          refine ev_iload_n (pc := 59) dM_piece_59 2 rfl rfl ?_
          refine ev_iast (pc := 60) dM_piece_60 hs (fun h60 hs => ?_)
          refine ev_aload_n (pc := 61) dM_piece_61 0 rfl rfl ?_
          refine ev_getR (pc := 62) dM_piece_62 lM_23 rfl rfl ?_
          refine ev_aload_n (pc := 65) dM_piece_65 0 rfl rfl ?_
          refine ev_getI (pc := 66) dM_piece_66 lM_103 rfl rfl ?_
          refine ev_iload_n (pc := 69) dM_piece_69 3 rfl rfl ?_
          refine ev_iast (pc := 70) dM_piece_70 hs (fun h70 hs => ?_)
          refine ev_aload_n (pc := 71) dM_piece_71 0 rfl rfl ?_
          refine ev_getR (pc := 72) dM_piece_72 lM_26 rfl rfl ?_
          refine ev_aload_n (pc := 75) dM_piece_75 0 rfl rfl ?_
          refine ev_getI (pc := 76) dM_piece_76 lM_103 rfl rfl ?_
          refine ev_aload_n (pc := 79) dM_piece_79 0 rfl rfl ?_
          refine ev_getI (pc := 80) dM_piece_80 lM_96 rfl rfl ?_
          refine ev_iast (pc := 83) dM_piece_83 hs (fun h83 hs => ?_)
          refine ev_aload_n (pc := 84) dM_piece_84 0 rfl rfl ?_
          refine ev_getR (pc := 85) dM_piece_85 lM_29 rfl rfl ?_
          refine ev_aload_n (pc := 88) dM_piece_88 0 rfl rfl ?_
          refine ev_getI (pc := 89) dM_piece_89 lM_103 rfl rfl ?_
          refine ev_iconst (pc := 92) (v := 0) dM_piece_92 (by decide) ?_
          refine ev_zast (pc := 93) dM_piece_93 hs (fun h93 hs => ?_)
          refine ev_iconst (pc := 94) (v := 0) dM_piece_94 (by decide) ?_
          refine ev_istore (pc := 95) (L' := [(0, .inr 28), (1, .inl x1), (2, .inl x2), (3, .inl x3), (4, .inl 0)]) dM_piece_95 rfl (Nat.le_of_ble_eq_true rfl) rfl ?_
          refine ev_sub [(0, .inr 28), (1, .inl x1), (2, .inl x2), (4, .inl 0)] [0, 1, 2, 4] rfl ?_
          refine cM_piece_L97 (fun h216 hs => ?_) _ _ _ hs
          refine ev_aload_n (pc := 216) dM_piece_216 0 rfl rfl ?_
          refine ev_dup (pc := 217) dM_piece_217 ?_
          refine ev_getI (pc := 218) dM_piece_218 lM_103 rfl rfl ?_
          refine ev_iconst (pc := 221) (v := 1) dM_piece_221 (by decide) ?_
          refine ev_iadd (pc := 222) dM_piece_222 ?_
          refine ev_putI (pc := 223) dM_piece_223 lM_103 w5_2 rfl rfl hs (fun h223 hs => ?_)
          refine ev_aload_n (pc := 226) dM_piece_226 0 rfl rfl ?_
          refine ev_getI (pc := 227) dM_piece_227 lM_103 rfl rfl ?_
          refine ev_iconst (pc := 230) (v := 1) dM_piece_230 (by decide) ?_
          refine ev_isub (pc := 231) dM_piece_231 ?_
          exact ev_iret rfl dM_piece_232 hs
        · refine ev_bipush (pc := 38) (v := (-2)) dM_piece_38 (by decide) ?_
          exact ev_iret rfl dM_piece_40 hs
      · refine ev_iconst (pc := 28) (v := (-1)) dM_piece_28 (by decide) ?_
        exact ev_iret rfl dM_piece_29 hs
set_option maxHeartbeats 4000000 in
set_option maxRecDepth 100000 in
theorem cM_drop {h0 : Hp}  {post : Int32 → Hp → Prop} (hs : Sat post (fM_drop h0 )) : Mt mM_drop 0 [.inr 28] h0 post := by
  refine mt_body (L := [(0, .inr 28)]) (by decide +kernel) (Nat.le_of_ble_eq_true rfl) rfl ?_
  refine ev_aload_n (pc := 0) dM_drop_0 0 rfl rfl ?_
  refine ev_getI (pc := 1) dM_drop_1 lM_103 rfl rfl ?_
  refine ev_if_ne (pc := 4) (tgt := 10) dM_drop_4 (by decide) hs (fun hs => ?_) (fun hs => ?_)
  · refine ev_aload_n (pc := 10) dM_drop_10 0 rfl rfl ?_
    refine ev_dup (pc := 11) dM_drop_11 ?_
    refine ev_getI (pc := 12) dM_drop_12 lM_103 rfl rfl ?_
    refine ev_iconst (pc := 15) (v := 1) dM_drop_15 (by decide) ?_
    refine ev_isub (pc := 16) dM_drop_16 ?_
    refine ev_putI (pc := 17) dM_drop_17 lM_103 w5_2 rfl rfl hs (fun h17 hs => ?_)
    refine ev_aload_n (pc := 20) dM_drop_20 0 rfl rfl ?_
    refine ev_aload_n (pc := 21) dM_drop_21 0 rfl rfl ?_
    refine ev_getR (pc := 22) dM_drop_22 lM_26 rfl rfl ?_
    refine ev_aload_n (pc := 25) dM_drop_25 0 rfl rfl ?_
    refine ev_getI (pc := 26) dM_drop_26 lM_103 rfl rfl ?_
    refine ev_iald (pc := 29) dM_drop_29 hs (fun r29 hs => ?_)
    refine ev_putI (pc := 30) dM_drop_30 lM_96 w5_8 rfl rfl hs (fun h30 hs => ?_)
    refine ev_aload_n (pc := 33) dM_drop_33 0 rfl rfl ?_
    refine ev_getI (pc := 34) dM_drop_34 lM_103 rfl rfl ?_
    exact ev_iret rfl dM_drop_37 hs
  · refine ev_bipush (pc := 7) (v := (-4)) dM_drop_7 (by decide) ?_
    exact ev_iret rfl dM_drop_9 hs
set_option maxHeartbeats 4000000 in
set_option maxRecDepth 100000 in
theorem cM_isCopy {h0 : Hp} {x1 : Int32} {post : Int32 → Hp → Prop} (hs : Sat post (fM_isCopy h0 x1)) : Mt mM_isCopy 1 [.inr 28, .inl x1] h0 post := by
  refine mt_body (L := [(0, .inr 28), (1, .inl x1)]) (by decide +kernel) (Nat.le_of_ble_eq_true rfl) rfl ?_
  refine ev_iload_n (pc := 0) dM_isCopy_0 1 rfl rfl ?_
  refine ev_iconst (pc := 1) (v := 0) dM_isCopy_1 (by decide) ?_
  refine ev_aload_n (pc := 2) dM_isCopy_2 0 rfl rfl ?_
  refine ev_getI (pc := 3) dM_isCopy_3 lM_96 rfl rfl ?_
  refine ev_iconst (pc := 6) (v := 1) dM_isCopy_6 (by decide) ?_
  refine ev_isub (pc := 7) dM_isCopy_7 ?_
  refine ev_callS (pc := 8) (As := [.inl x1, .inl 0, .inl ((h0 28 8) - 1)]) (S := []) (d2 := 0) dM_isCopy_8 (Or.inl vM_99) zM_in rfl (Nat.le_of_ble_eq_true rfl) (Nat.le_of_ble_eq_true rfl) rfl rfl (fun p1 hz => cM_in hz) hs (fun r8 h8 hs => ?_)
  exact ev_zret rfl dM_isCopy_11 hs
set_option maxHeartbeats 4000000 in
set_option maxRecDepth 100000 in
theorem cM_isMark {h0 : Hp} {x0 : Int32} {post : Int32 → Hp → Prop} (hs : Sat post (fM_isMark h0 x0)) : Mt mM_isMark 1 [.inl x0] h0 post := by
  refine mt_body (L := [(0, .inl x0)]) (by decide +kernel) (Nat.le_of_ble_eq_true rfl) rfl ?_
  refine ev_iload_n (pc := 0) dM_isMark_0 0 rfl rfl ?_
  refine ev_iconst (pc := 1) (v := 0) dM_isMark_1 (by decide) ?_
  refine ev_bipush (pc := 2) (v := 7) dM_isMark_2 (by decide) ?_
  refine ev_callS (pc := 4) (As := [.inl x0, .inl 0, .inl 7]) (S := []) (d2 := 0) dM_isMark_4 (Or.inl vM_99) zM_in rfl (Nat.le_of_ble_eq_true rfl) (Nat.le_of_ble_eq_true rfl) rfl rfl (fun p1 hz => cM_in hz) hs (fun r4 h4 hs => ?_)
  exact ev_zret rfl dM_isMark_7 hs
set_option maxHeartbeats 4000000 in
set_option maxRecDepth 100000 in
theorem cM_mark {h0 : Hp} {x1 : Int32} {x2 : Int32} {x3 : Int32} {post : Int32 → Hp → Prop} (hs : Sat post (fM_mark h0 x1 x2 x3)) : Mt mM_mark 2 [.inr 28, .inl x1, .inl x2, .inl x3] h0 post := by
  refine mt_body (L := [(0, .inr 28), (1, .inl x1), (2, .inl x2), (3, .inl x3)]) (by decide +kernel) (Nat.le_of_ble_eq_true rfl) rfl ?_
  refine ev_aload_n (pc := 0) dM_mark_0 0 rfl rfl ?_
  refine ev_iload_n (pc := 1) dM_mark_1 1 rfl rfl ?_
  refine ev_callV (pc := 2) (As := [.inl x1]) (S := []) (d2 := 1) dM_mark_2 vM_110 zM_isCopy rfl rfl rfl rfl (Nat.le_of_ble_eq_true rfl) (Nat.le_of_ble_eq_true rfl) rfl rfl (fun p1 hz => cM_isCopy hz) hs (fun r2 h2 hs => ?_)
  refine ev_if_eq (pc := 5) (tgt := 24) dM_mark_5 (by decide) hs (fun hs => ?_) (fun hs => ?_)
  · refine ev_iconst (pc := 24) (v := (-1)) dM_mark_24 (by decide) ?_
    exact ev_iret rfl dM_mark_25 hs
  · refine ev_iload_n (pc := 8) dM_mark_8 2 rfl rfl ?_
    refine ev_callS (pc := 9) (As := [.inl x2]) (S := []) (d2 := 1) dM_mark_9 (Or.inl vM_114) zM_isMark rfl (Nat.le_of_ble_eq_true rfl) (Nat.le_of_ble_eq_true rfl) rfl rfl (fun p1 hz => cM_isMark hz) hs (fun r9 h9 hs => ?_)
    refine ev_if_eq (pc := 12) (tgt := 24) dM_mark_12 (by decide) hs (fun hs => ?_) (fun hs => ?_)
    · refine ev_iconst (pc := 24) (v := (-1)) dM_mark_24 (by decide) ?_
      exact ev_iret rfl dM_mark_25 hs
    · refine ev_iload_n (pc := 15) dM_mark_15 3 rfl rfl ?_
      refine ev_iconst (pc := 16) (v := 0) dM_mark_16 (by decide) ?_
      refine ev_iconst (pc := 17) (v := 2) dM_mark_17 (by decide) ?_
      refine ev_callS (pc := 18) (As := [.inl x3, .inl 0, .inl 2]) (S := []) (d2 := 0) dM_mark_18 (Or.inl vM_99) zM_in rfl (Nat.le_of_ble_eq_true rfl) (Nat.le_of_ble_eq_true rfl) rfl rfl (fun p1 hz => cM_in hz) hs (fun r18 h18 hs => ?_)
      refine ev_if_ne (pc := 21) (tgt := 26) dM_mark_21 (by decide) hs (fun hs => ?_) (fun hs => ?_)
      · refine ev_aload_n (pc := 26) dM_mark_26 0 rfl rfl ?_
        refine ev_getR (pc := 27) dM_mark_27 lM_36 rfl rfl ?_
        refine ev_bipush (pc := 30) (v := 8) dM_mark_30 (by decide) ?_
        refine ev_iload_n (pc := 32) dM_mark_32 1 rfl rfl ?_
        refine ev_imul (pc := 33) dM_mark_33 ?_
        refine ev_iload_n (pc := 34) dM_mark_34 2 rfl rfl ?_
        refine ev_iadd (pc := 35) dM_mark_35 ?_
        refine ev_iald (pc := 36) dM_mark_36 hs (fun r36 hs => ?_)
        refine ev_istore (pc := 37) (L' := [(0, .inr 28), (1, .inl x1), (2, .inl x2), (3, .inl x3), (4, .inl r36)]) dM_mark_37 rfl (Nat.le_of_ble_eq_true rfl) rfl ?_
        refine ev_aload_n (pc := 39) dM_mark_39 0 rfl rfl ?_
        refine ev_getR (pc := 40) dM_mark_40 lM_36 rfl rfl ?_
        refine ev_bipush (pc := 43) (v := 8) dM_mark_43 (by decide) ?_
        refine ev_iload_n (pc := 45) dM_mark_45 1 rfl rfl ?_
        refine ev_imul (pc := 46) dM_mark_46 ?_
        refine ev_iload_n (pc := 47) dM_mark_47 2 rfl rfl ?_
        refine ev_iadd (pc := 48) dM_mark_48 ?_
        refine ev_iload_n (pc := 49) dM_mark_49 3 rfl rfl ?_
        refine ev_iast (pc := 50) dM_mark_50 hs (fun h50 hs => ?_)
        refine ev_iload (pc := 51) dM_mark_51 4 rfl ?_
        exact ev_iret rfl dM_mark_53 hs
      · refine ev_iconst (pc := 24) (v := (-1)) dM_mark_24 (by decide) ?_
        exact ev_iret rfl dM_mark_25 hs
set_option maxHeartbeats 4000000 in
set_option maxRecDepth 100000 in
theorem cM_like_L23 {x1 : Int32} {x2 : Int32} {post : Int32 → Hp → Prop}  : ∀ (n : Nat) (x3_23 : Int32) (x4_23 : Int32) (h23 : Hp), Sat post (fM_like_L23 x1 x2 n x3_23 x4_23 h23) → Ev mM_like 2 23 [(0, .inr 28), (1, .inl x1), (2, .inl x2), (3, .inl x3_23), (4, .inl x4_23)] [] h23 post := by
  intro n
  induction n with
  | zero =>
    intro x3_23 x4_23 h23 hs
    exact False.elim hs
  | succ n ih =>
    intro x3_23 x4_23 h23 hs
    refine ev_iload (pc := 23) dM_like_23 4 rfl ?_
    refine ev_bipush (pc := 25) (v := 8) dM_like_25 (by decide) ?_
    refine ev_icmp_ge (pc := 27) (tgt := 95) dM_like_27 (by decide) hs (fun hs => ?_) (fun hs => ?_)
    · refine ev_iload_n (pc := 95) dM_like_95 3 rfl rfl ?_
      exact ev_iret rfl dM_like_96 hs
    · refine ev_iload_n (pc := 30) dM_like_30 3 rfl rfl ?_
      refine ev_aload_n (pc := 31) dM_like_31 0 rfl rfl ?_
      refine ev_getR (pc := 32) dM_like_32 lM_36 rfl rfl ?_
      refine ev_bipush (pc := 35) (v := 8) dM_like_35 (by decide) ?_
      refine ev_iload_n (pc := 37) dM_like_37 1 rfl rfl ?_
      refine ev_imul (pc := 38) dM_like_38 ?_
      refine ev_iload (pc := 39) dM_like_39 4 rfl ?_
      refine ev_iadd (pc := 41) dM_like_41 ?_
      refine ev_iald (pc := 42) dM_like_42 hs (fun r42 hs => ?_)
      refine ev_aload_n (pc := 43) dM_like_43 0 rfl rfl ?_
      refine ev_getR (pc := 44) dM_like_44 lM_36 rfl rfl ?_
      refine ev_bipush (pc := 47) (v := 8) dM_like_47 (by decide) ?_
      refine ev_iload_n (pc := 49) dM_like_49 2 rfl rfl ?_
      refine ev_imul (pc := 50) dM_like_50 ?_
      refine ev_iload (pc := 51) dM_like_51 4 rfl ?_
      refine ev_iadd (pc := 53) dM_like_53 ?_
      refine ev_iald (pc := 54) dM_like_54 hs (fun r54 hs => ?_)
      refine ev_jn (fun (j : Int32 → Hp → RO) => ∀ (s63 : Int32) (h63 : Hp), Sat post (j s63 h63) → Ev mM_like 2 63 [(0, .inr 28), (1, .inl x1), (2, .inl x2), (4, .inl x4_23)] [.inl s63, .inl x3_23] h63 post) hs (fun s63 h63 hs => ?_) (fun j63 hj63 hs => ?_)
      · refine ev_iadd (pc := 63) dM_like_63 ?_
        refine ev_bnd hs (fun v64 hs => ?_)
        refine ev_istore_n (pc := 64) (L' := [(0, .inr 28), (1, .inl x1), (2, .inl x2), (3, .inl v64), (4, .inl x4_23)]) dM_like_64 rfl rfl (Nat.le_of_ble_eq_true rfl) rfl ?_
        refine ev_aload_n (pc := 65) dM_like_65 0 rfl rfl ?_
        refine ev_getR (pc := 66) dM_like_66 lM_36 rfl rfl ?_
        refine ev_bipush (pc := 69) (v := 8) dM_like_69 (by decide) ?_
        refine ev_iload_n (pc := 71) dM_like_71 1 rfl rfl ?_
        refine ev_imul (pc := 72) dM_like_72 ?_
        refine ev_iload (pc := 73) dM_like_73 4 rfl ?_
        refine ev_iadd (pc := 75) dM_like_75 ?_
        refine ev_aload_n (pc := 76) dM_like_76 0 rfl rfl ?_
        refine ev_getR (pc := 77) dM_like_77 lM_36 rfl rfl ?_
        refine ev_bipush (pc := 80) (v := 8) dM_like_80 (by decide) ?_
        refine ev_iload_n (pc := 82) dM_like_82 2 rfl rfl ?_
        refine ev_imul (pc := 83) dM_like_83 ?_
        refine ev_iload (pc := 84) dM_like_84 4 rfl ?_
        refine ev_iadd (pc := 86) dM_like_86 ?_
        refine ev_iald (pc := 87) dM_like_87 hs (fun r87 hs => ?_)
        refine ev_iast (pc := 88) dM_like_88 hs (fun h88 hs => ?_)
        refine ev_iinc (pc := 89) (L' := [(0, .inr 28), (1, .inl x1), (2, .inl x2), (3, .inl v64), (4, .inl (x4_23 + 1))]) (v := (x4_23 + 1)) dM_like_89 4 rfl (congrArg (HAdd.hAdd _) (by decide)) rfl (Nat.le_of_ble_eq_true rfl) rfl ?_
        refine ev_goto (pc := 92) (tgt := 23) dM_like_92 (by decide) ?_
        exact ih _ _ _ hs
      refine ev_icmp_eq (pc := 55) (tgt := 62) dM_like_55 (by decide) hs (fun hs => ?_) (fun hs => ?_)
      · refine ev_iconst (pc := 62) (v := 0) dM_like_62 (by decide) ?_
        refine ev_sub [(0, .inr 28), (1, .inl x1), (2, .inl x2), (4, .inl x4_23)] [0, 1, 2, 4] rfl ?_
        exact hj63 _ _ hs
      · refine ev_iconst (pc := 58) (v := 1) dM_like_58 (by decide) ?_
        refine ev_goto (pc := 59) (tgt := 63) dM_like_59 (by decide) ?_
        refine ev_sub [(0, .inr 28), (1, .inl x1), (2, .inl x2), (4, .inl x4_23)] [0, 1, 2, 4] rfl ?_
        exact hj63 _ _ hs
set_option maxHeartbeats 4000000 in
set_option maxRecDepth 100000 in
theorem cM_like {h0 : Hp} {x1 : Int32} {x2 : Int32} {post : Int32 → Hp → Prop} (hs : Sat post (fM_like h0 x1 x2)) : Mt mM_like 2 [.inr 28, .inl x1, .inl x2] h0 post := by
  refine mt_body (L := [(0, .inr 28), (1, .inl x1), (2, .inl x2)]) (by decide +kernel) (Nat.le_of_ble_eq_true rfl) rfl ?_
  refine ev_aload_n (pc := 0) dM_like_0 0 rfl rfl ?_
  refine ev_iload_n (pc := 1) dM_like_1 1 rfl rfl ?_
  refine ev_callV (pc := 2) (As := [.inl x1]) (S := []) (d2 := 1) dM_like_2 vM_110 zM_isCopy rfl rfl rfl rfl (Nat.le_of_ble_eq_true rfl) (Nat.le_of_ble_eq_true rfl) rfl rfl (fun p1 hz => cM_isCopy hz) hs (fun r2 h2 hs => ?_)
  refine ev_if_eq (pc := 5) (tgt := 16) dM_like_5 (by decide) hs (fun hs => ?_) (fun hs => ?_)
  · refine ev_iconst (pc := 16) (v := (-1)) dM_like_16 (by decide) ?_
    exact ev_iret rfl dM_like_17 hs
  · refine ev_aload_n (pc := 8) dM_like_8 0 rfl rfl ?_
    refine ev_iload_n (pc := 9) dM_like_9 2 rfl rfl ?_
    refine ev_callV (pc := 10) (As := [.inl x2]) (S := []) (d2 := 1) dM_like_10 vM_110 zM_isCopy rfl rfl rfl rfl (Nat.le_of_ble_eq_true rfl) (Nat.le_of_ble_eq_true rfl) rfl rfl (fun p1 hz => cM_isCopy hz) hs (fun r10 h10 hs => ?_)
    refine ev_if_ne (pc := 13) (tgt := 18) dM_like_13 (by decide) hs (fun hs => ?_) (fun hs => ?_)
    · refine ev_iconst (pc := 18) (v := 0) dM_like_18 (by decide) ?_
      refine ev_istore_n (pc := 19) (L' := [(0, .inr 28), (1, .inl x1), (2, .inl x2), (3, .inl 0)]) dM_like_19 rfl rfl (Nat.le_of_ble_eq_true rfl) rfl ?_
      refine ev_iconst (pc := 20) (v := 0) dM_like_20 (by decide) ?_
      refine ev_istore (pc := 21) (L' := [(0, .inr 28), (1, .inl x1), (2, .inl x2), (3, .inl 0), (4, .inl 0)]) dM_like_21 rfl (Nat.le_of_ble_eq_true rfl) rfl ?_
      exact cM_like_L23  _ _ _ _ hs
    · refine ev_iconst (pc := 16) (v := (-1)) dM_like_16 (by decide) ?_
      exact ev_iret rfl dM_like_17 hs
set_option maxHeartbeats 4000000 in
set_option maxRecDepth 100000 in
theorem cM_letter {h0 : Hp} {x1 : Int32} {x2 : Int32} {x3 : Int32} {post : Int32 → Hp → Prop} (hs : Sat post (fM_letter h0 x1 x2 x3)) : Mt mM_letter 2 [.inr 28, .inl x1, .inl x2, .inl x3] h0 post := by
  refine mt_body (L := [(0, .inr 28), (1, .inl x1), (2, .inl x2), (3, .inl x3)]) (by decide +kernel) (Nat.le_of_ble_eq_true rfl) rfl ?_
  refine ev_aload_n (pc := 0) dM_letter_0 0 rfl rfl ?_
  refine ev_iload_n (pc := 1) dM_letter_1 1 rfl rfl ?_
  refine ev_callV (pc := 2) (As := [.inl x1]) (S := []) (d2 := 1) dM_letter_2 vM_110 zM_isCopy rfl rfl rfl rfl (Nat.le_of_ble_eq_true rfl) (Nat.le_of_ble_eq_true rfl) rfl rfl (fun p1 hz => cM_isCopy hz) hs (fun r2 h2 hs => ?_)
  refine ev_if_eq (pc := 5) (tgt := 28) dM_letter_5 (by decide) hs (fun hs => ?_) (fun hs => ?_)
  · refine ev_iconst (pc := 28) (v := (-1)) dM_letter_28 (by decide) ?_
    exact ev_iret rfl dM_letter_29 hs
  · refine ev_iload_n (pc := 8) dM_letter_8 2 rfl rfl ?_
    refine ev_iconst (pc := 9) (v := 0) dM_letter_9 (by decide) ?_
    refine ev_iconst (pc := 10) (v := 1) dM_letter_10 (by decide) ?_
    refine ev_callS (pc := 11) (As := [.inl x2, .inl 0, .inl 1]) (S := []) (d2 := 0) dM_letter_11 (Or.inl vM_99) zM_in rfl (Nat.le_of_ble_eq_true rfl) (Nat.le_of_ble_eq_true rfl) rfl rfl (fun p1 hz => cM_in hz) hs (fun r11 h11 hs => ?_)
    refine ev_if_eq (pc := 14) (tgt := 28) dM_letter_14 (by decide) hs (fun hs => ?_) (fun hs => ?_)
    · refine ev_iconst (pc := 28) (v := (-1)) dM_letter_28 (by decide) ?_
      exact ev_iret rfl dM_letter_29 hs
    · refine ev_iload_n (pc := 17) dM_letter_17 3 rfl rfl ?_
      refine ev_iconst (pc := 18) (v := (-1)) dM_letter_18 (by decide) ?_
      refine ev_iconst (pc := 19) (v := 2) dM_letter_19 (by decide) ?_
      refine ev_iload_n (pc := 20) dM_letter_20 2 rfl rfl ?_
      refine ev_iadd (pc := 21) dM_letter_21 ?_
      refine ev_callS (pc := 22) (As := [.inl x3, .inl (-1), .inl (2 + x2)]) (S := []) (d2 := 0) dM_letter_22 (Or.inl vM_99) zM_in rfl (Nat.le_of_ble_eq_true rfl) (Nat.le_of_ble_eq_true rfl) rfl rfl (fun p1 hz => cM_in hz) hs (fun r22 h22 hs => ?_)
      refine ev_if_ne (pc := 25) (tgt := 30) dM_letter_25 (by decide) hs (fun hs => ?_) (fun hs => ?_)
      · refine ev_iload_n (pc := 30) dM_letter_30 2 rfl rfl ?_
        refine ev_if_ne (pc := 31) (tgt := 44) dM_letter_31 (by decide) hs (fun hs => ?_) (fun hs => ?_)
        · refine ev_aload_n (pc := 44) dM_letter_44 0 rfl rfl ?_
          refine ev_getR (pc := 45) dM_letter_45 lM_42 rfl rfl ?_
          refine ev_iload_n (pc := 48) dM_letter_48 1 rfl rfl ?_
          refine ev_iload_n (pc := 49) dM_letter_49 3 rfl rfl ?_
          refine ev_iast (pc := 50) dM_letter_50 hs (fun h50 hs => ?_)
          refine ev_iconst (pc := 51) (v := 1) dM_letter_51 (by decide) ?_
          exact ev_iret rfl dM_letter_52 hs
        · refine ev_aload_n (pc := 34) dM_letter_34 0 rfl rfl ?_
          refine ev_getR (pc := 35) dM_letter_35 lM_39 rfl rfl ?_
          refine ev_iload_n (pc := 38) dM_letter_38 1 rfl rfl ?_
          refine ev_iload_n (pc := 39) dM_letter_39 3 rfl rfl ?_
          refine ev_iast (pc := 40) dM_letter_40 hs (fun h40 hs => ?_)
          refine ev_goto (pc := 41) (tgt := 51) dM_letter_41 (by decide) ?_
          refine ev_iconst (pc := 51) (v := 1) dM_letter_51 (by decide) ?_
          exact ev_iret rfl dM_letter_52 hs
      · refine ev_iconst (pc := 28) (v := (-1)) dM_letter_28 (by decide) ?_
        exact ev_iret rfl dM_letter_29 hs
set_option maxHeartbeats 4000000 in
set_option maxRecDepth 100000 in
theorem cM_wear {h0 : Hp} {x1 : Int32} {x2 : Int32} {post : Int32 → Hp → Prop} (hs : Sat post (fM_wear h0 x1 x2)) : Mt mM_wear 2 [.inr 28, .inl x1, .inl x2] h0 post := by
  refine mt_body (L := [(0, .inr 28), (1, .inl x1), (2, .inl x2)]) (by decide +kernel) (Nat.le_of_ble_eq_true rfl) rfl ?_
  refine ev_aload_n (pc := 0) dM_wear_0 0 rfl rfl ?_
  refine ev_iload_n (pc := 1) dM_wear_1 1 rfl rfl ?_
  refine ev_callV (pc := 2) (As := [.inl x1]) (S := []) (d2 := 1) dM_wear_2 vM_110 zM_isCopy rfl rfl rfl rfl (Nat.le_of_ble_eq_true rfl) (Nat.le_of_ble_eq_true rfl) rfl rfl (fun p1 hz => cM_isCopy hz) hs (fun r2 h2 hs => ?_)
  refine ev_if_eq (pc := 5) (tgt := 18) dM_wear_5 (by decide) hs (fun hs => ?_) (fun hs => ?_)
  · refine ev_iconst (pc := 18) (v := (-1)) dM_wear_18 (by decide) ?_
    exact ev_iret rfl dM_wear_19 hs
  · refine ev_iload_n (pc := 8) dM_wear_8 2 rfl rfl ?_
    refine ev_iconst (pc := 9) (v := 0) dM_wear_9 (by decide) ?_
    refine ev_bipush (pc := 10) (v := 99) dM_wear_10 (by decide) ?_
    refine ev_callS (pc := 12) (As := [.inl x2, .inl 0, .inl 99]) (S := []) (d2 := 0) dM_wear_12 (Or.inl vM_99) zM_in rfl (Nat.le_of_ble_eq_true rfl) (Nat.le_of_ble_eq_true rfl) rfl rfl (fun p1 hz => cM_in hz) hs (fun r12 h12 hs => ?_)
    refine ev_if_ne (pc := 15) (tgt := 20) dM_wear_15 (by decide) hs (fun hs => ?_) (fun hs => ?_)
    · refine ev_aload_n (pc := 20) dM_wear_20 0 rfl rfl ?_
      refine ev_getR (pc := 21) dM_wear_21 lM_45 rfl rfl ?_
      refine ev_iload_n (pc := 24) dM_wear_24 1 rfl rfl ?_
      refine ev_iald (pc := 25) dM_wear_25 hs (fun r25 hs => ?_)
      refine ev_istore_n (pc := 26) (L' := [(0, .inr 28), (1, .inl x1), (2, .inl x2), (3, .inl r25)]) dM_wear_26 rfl rfl (Nat.le_of_ble_eq_true rfl) rfl ?_
      refine ev_aload_n (pc := 27) dM_wear_27 0 rfl rfl ?_
      refine ev_getR (pc := 28) dM_wear_28 lM_45 rfl rfl ?_
      refine ev_iload_n (pc := 31) dM_wear_31 1 rfl rfl ?_
      refine ev_iload_n (pc := 32) dM_wear_32 2 rfl rfl ?_
      refine ev_iast (pc := 33) dM_wear_33 hs (fun h33 hs => ?_)
      refine ev_iload_n (pc := 34) dM_wear_34 3 rfl rfl ?_
      exact ev_iret rfl dM_wear_35 hs
    · refine ev_iconst (pc := 18) (v := (-1)) dM_wear_18 (by decide) ?_
      exact ev_iret rfl dM_wear_19 hs
set_option maxHeartbeats 4000000 in
set_option maxRecDepth 100000 in
theorem cM_dated {h0 : Hp} {x1 : Int32} {x2 : Int32} {x3 : Int32} {post : Int32 → Hp → Prop} (hs : Sat post (fM_dated h0 x1 x2 x3)) : Mt mM_dated 2 [.inr 28, .inl x1, .inl x2, .inl x3] h0 post := by
  refine mt_body (L := [(0, .inr 28), (1, .inl x1), (2, .inl x2), (3, .inl x3)]) (by decide +kernel) (Nat.le_of_ble_eq_true rfl) rfl ?_
  refine ev_aload_n (pc := 0) dM_dated_0 0 rfl rfl ?_
  refine ev_iload_n (pc := 1) dM_dated_1 1 rfl rfl ?_
  refine ev_callV (pc := 2) (As := [.inl x1]) (S := []) (d2 := 1) dM_dated_2 vM_110 zM_isCopy rfl rfl rfl rfl (Nat.le_of_ble_eq_true rfl) (Nat.le_of_ble_eq_true rfl) rfl rfl (fun p1 hz => cM_isCopy hz) hs (fun r2 h2 hs => ?_)
  refine ev_if_eq (pc := 5) (tgt := 28) dM_dated_5 (by decide) hs (fun hs => ?_) (fun hs => ?_)
  · refine ev_iconst (pc := 28) (v := (-1)) dM_dated_28 (by decide) ?_
    exact ev_iret rfl dM_dated_29 hs
  · refine ev_iload_n (pc := 8) dM_dated_8 2 rfl rfl ?_
    refine ev_iconst (pc := 9) (v := (-1)) dM_dated_9 (by decide) ?_
    refine ev_sipush (pc := 10) (v := 999) dM_dated_10 (by decide) ?_
    refine ev_callS (pc := 13) (As := [.inl x2, .inl (-1), .inl 999]) (S := []) (d2 := 0) dM_dated_13 (Or.inl vM_99) zM_in rfl (Nat.le_of_ble_eq_true rfl) (Nat.le_of_ble_eq_true rfl) rfl rfl (fun p1 hz => cM_in hz) hs (fun r13 h13 hs => ?_)
    refine ev_if_eq (pc := 16) (tgt := 28) dM_dated_16 (by decide) hs (fun hs => ?_) (fun hs => ?_)
    · refine ev_iconst (pc := 28) (v := (-1)) dM_dated_28 (by decide) ?_
      exact ev_iret rfl dM_dated_29 hs
    · refine ev_iload_n (pc := 19) dM_dated_19 3 rfl rfl ?_
      refine ev_iconst (pc := 20) (v := 0) dM_dated_20 (by decide) ?_
      refine ev_iconst (pc := 21) (v := 5) dM_dated_21 (by decide) ?_
      refine ev_callS (pc := 22) (As := [.inl x3, .inl 0, .inl 5]) (S := []) (d2 := 0) dM_dated_22 (Or.inl vM_99) zM_in rfl (Nat.le_of_ble_eq_true rfl) (Nat.le_of_ble_eq_true rfl) rfl rfl (fun p1 hz => cM_in hz) hs (fun r22 h22 hs => ?_)
      refine ev_if_ne (pc := 25) (tgt := 30) dM_dated_25 (by decide) hs (fun hs => ?_) (fun hs => ?_)
      · refine ev_aload_n (pc := 30) dM_dated_30 0 rfl rfl ?_
        refine ev_getR (pc := 31) dM_dated_31 lM_48 rfl rfl ?_
        refine ev_iload_n (pc := 34) dM_dated_34 1 rfl rfl ?_
        refine ev_iload_n (pc := 35) dM_dated_35 2 rfl rfl ?_
        refine ev_iast (pc := 36) dM_dated_36 hs (fun h36 hs => ?_)
        refine ev_aload_n (pc := 37) dM_dated_37 0 rfl rfl ?_
        refine ev_getR (pc := 38) dM_dated_38 lM_51 rfl rfl ?_
        refine ev_iload_n (pc := 41) dM_dated_41 1 rfl rfl ?_
        refine ev_iload_n (pc := 42) dM_dated_42 3 rfl rfl ?_
        refine ev_iast (pc := 43) dM_dated_43 hs (fun h43 hs => ?_)
        refine ev_iconst (pc := 44) (v := 1) dM_dated_44 (by decide) ?_
        exact ev_iret rfl dM_dated_45 hs
      · refine ev_iconst (pc := 28) (v := (-1)) dM_dated_28 (by decide) ?_
        exact ev_iret rfl dM_dated_29 hs
set_option maxHeartbeats 4000000 in
set_option maxRecDepth 100000 in
theorem cM_isPiece {h0 : Hp} {x1 : Int32} {post : Int32 → Hp → Prop} (hs : Sat post (fM_isPiece h0 x1)) : Mt mM_isPiece 1 [.inr 28, .inl x1] h0 post := by
  refine mt_body (L := [(0, .inr 28), (1, .inl x1)]) (by decide +kernel) (Nat.le_of_ble_eq_true rfl) rfl ?_
  refine ev_iload_n (pc := 0) dM_isPiece_0 1 rfl rfl ?_
  refine ev_iconst (pc := 1) (v := 0) dM_isPiece_1 (by decide) ?_
  refine ev_aload_n (pc := 2) dM_isPiece_2 0 rfl rfl ?_
  refine ev_getI (pc := 3) dM_isPiece_3 lM_103 rfl rfl ?_
  refine ev_iconst (pc := 6) (v := 1) dM_isPiece_6 (by decide) ?_
  refine ev_isub (pc := 7) dM_isPiece_7 ?_
  refine ev_callS (pc := 8) (As := [.inl x1, .inl 0, .inl ((h0 28 2) - 1)]) (S := []) (d2 := 0) dM_isPiece_8 (Or.inl vM_99) zM_in rfl (Nat.le_of_ble_eq_true rfl) (Nat.le_of_ble_eq_true rfl) rfl rfl (fun p1 hz => cM_in hz) hs (fun r8 h8 hs => ?_)
  exact ev_zret rfl dM_isPiece_11 hs
set_option maxHeartbeats 4000000 in
set_option maxRecDepth 100000 in
theorem cM_out {h0 : Hp} {x1 : Int32} {x2 : Int32} {post : Int32 → Hp → Prop} (hs : Sat post (fM_out h0 x1 x2)) : Mt mM_out 2 [.inr 28, .inl x1, .inl x2] h0 post := by
  refine mt_body (L := [(0, .inr 28), (1, .inl x1), (2, .inl x2)]) (by decide +kernel) (Nat.le_of_ble_eq_true rfl) rfl ?_
  refine ev_aload_n (pc := 0) dM_out_0 0 rfl rfl ?_
  refine ev_iload_n (pc := 1) dM_out_1 1 rfl rfl ?_
  refine ev_callV (pc := 2) (As := [.inl x1]) (S := []) (d2 := 1) dM_out_2 vM_117 zM_isPiece rfl rfl rfl rfl (Nat.le_of_ble_eq_true rfl) (Nat.le_of_ble_eq_true rfl) rfl rfl (fun p1 hz => cM_isPiece hz) hs (fun r2 h2 hs => ?_)
  refine ev_if_ne (pc := 5) (tgt := 10) dM_out_5 (by decide) hs (fun hs => ?_) (fun hs => ?_)
  · refine ev_aload_n (pc := 10) dM_out_10 0 rfl rfl ?_
    refine ev_getR (pc := 11) dM_out_11 lM_29 rfl rfl ?_
    refine ev_iload_n (pc := 14) dM_out_14 1 rfl rfl ?_
    refine ev_zald (pc := 15) dM_out_15 hs (fun r15 hs => ?_)
    refine ev_iload_n (pc := 16) dM_out_16 2 rfl rfl ?_
    refine ev_jn (fun (j : Int32 → Hp → RO) => ∀ (s25 : Int32) (h25 : Hp), Sat post (j s25 h25) → Ev mM_out 2 25 [(0, .inr 28), (1, .inl x1), (2, .inl x2)] [.inl s25] h25 post) hs (fun s25 h25 hs => ?_) (fun j25 hj25 hs => ?_)
    · refine ev_istore_n (pc := 25) (L' := [(0, .inr 28), (1, .inl x1), (2, .inl x2), (3, .inl s25)]) dM_out_25 rfl rfl (Nat.le_of_ble_eq_true rfl) rfl ?_
      refine ev_aload_n (pc := 26) dM_out_26 0 rfl rfl ?_
      refine ev_getR (pc := 27) dM_out_27 lM_29 rfl rfl ?_
      refine ev_iload_n (pc := 30) dM_out_30 1 rfl rfl ?_
      refine ev_iload_n (pc := 31) dM_out_31 2 rfl rfl ?_
      refine ev_zast (pc := 32) dM_out_32 hs (fun h32 hs => ?_)
      refine ev_iload_n (pc := 33) dM_out_33 3 rfl rfl ?_
      exact ev_iret rfl dM_out_34 hs
    refine ev_icmp_ne (pc := 17) (tgt := 24) dM_out_17 (by decide) hs (fun hs => ?_) (fun hs => ?_)
    · refine ev_iconst (pc := 24) (v := 1) dM_out_24 (by decide) ?_
      exact hj25 _ _ hs
    · refine ev_iconst (pc := 20) (v := 0) dM_out_20 (by decide) ?_
      refine ev_goto (pc := 21) (tgt := 25) dM_out_21 (by decide) ?_
      exact hj25 _ _ hs
  · refine ev_iconst (pc := 8) (v := (-1)) dM_out_8 (by decide) ?_
    exact ev_iret rfl dM_out_9 hs
set_option maxHeartbeats 4000000 in
set_option maxRecDepth 100000 in
theorem cM_bar_L23 {k80 : Hp → RO} {x1 : Int32} {x2 : Int32} {post : Int32 → Hp → Prop} (hk80 : ∀  (h : Hp), Sat post (k80 h) → Ev mM_bar 2 80 [(0, .inr 28), (1, .inl x1), (2, .inl x2)] [] h post) : ∀ (n : Nat) (x3_23 : Int32) (h23 : Hp), Sat post (fM_bar_L23 k80 x1 x2 n x3_23 h23) → Ev mM_bar 2 23 [(0, .inr 28), (1, .inl x1), (2, .inl x2), (3, .inl x3_23)] [] h23 post := by
  intro n
  induction n with
  | zero =>
    intro x3_23 h23 hs
    exact False.elim hs
  | succ n ih =>
    intro x3_23 h23 hs
    refine ev_iload_n (pc := 23) dM_bar_23 3 rfl rfl ?_
    refine ev_aload_n (pc := 24) dM_bar_24 0 rfl rfl ?_
    refine ev_getI (pc := 25) dM_bar_25 lM_120 rfl rfl ?_
    refine ev_icmp_ge (pc := 28) (tgt := 80) dM_bar_28 (by decide) hs (fun hs => ?_) (fun hs => ?_)
    · refine ev_sub [(0, .inr 28), (1, .inl x1), (2, .inl x2)] [0, 1, 2] rfl ?_
      exact hk80 _ hs
    · refine ev_aload_n (pc := 31) dM_bar_31 0 rfl rfl ?_
      refine ev_getR (pc := 32) dM_bar_32 lM_54 rfl rfl ?_
      refine ev_iload_n (pc := 35) dM_bar_35 3 rfl rfl ?_
      refine ev_iald (pc := 36) dM_bar_36 hs (fun r36 hs => ?_)
      refine ev_iload_n (pc := 37) dM_bar_37 1 rfl rfl ?_
      refine ev_jn (fun (j : Hp → RO) => ∀  (h51 : Hp), Sat post (j h51) → Ev mM_bar 2 51 [(0, .inr 28), (1, .inl x1), (2, .inl x2), (3, .inl x3_23)] [] h51 post) hs (fun h51 hs => ?_) (fun j51 hj51 hs => ?_)
      · refine ev_aload_n (pc := 51) dM_bar_51 0 rfl rfl ?_
        refine ev_getR (pc := 52) dM_bar_52 lM_54 rfl rfl ?_
        refine ev_iload_n (pc := 55) dM_bar_55 3 rfl rfl ?_
        refine ev_iald (pc := 56) dM_bar_56 hs (fun r56 hs => ?_)
        refine ev_iload_n (pc := 57) dM_bar_57 2 rfl rfl ?_
        refine ev_jn (fun (j : Hp → RO) => ∀  (h74 : Hp), Sat post (j h74) → Ev mM_bar 2 74 [(0, .inr 28), (1, .inl x1), (2, .inl x2), (3, .inl x3_23)] [] h74 post) hs (fun h74 hs => ?_) (fun j74 hj74 hs => ?_)
        · refine ev_iinc (pc := 74) (L' := [(0, .inr 28), (1, .inl x1), (2, .inl x2), (3, .inl (x3_23 + 1))]) (v := (x3_23 + 1)) dM_bar_74 3 rfl (congrArg (HAdd.hAdd _) (by decide)) rfl (Nat.le_of_ble_eq_true rfl) rfl ?_
          refine ev_goto (pc := 77) (tgt := 23) dM_bar_77 (by decide) ?_
          exact ih _ _ hs
        refine ev_icmp_ne (pc := 58) (tgt := 74) dM_bar_58 (by decide) hs (fun hs => ?_) (fun hs => ?_)
        · exact hj74 _ hs
        · refine ev_aload_n (pc := 61) dM_bar_61 0 rfl rfl ?_
          refine ev_getR (pc := 62) dM_bar_62 lM_57 rfl rfl ?_
          refine ev_iload_n (pc := 65) dM_bar_65 3 rfl rfl ?_
          refine ev_iald (pc := 66) dM_bar_66 hs (fun r66 hs => ?_)
          refine ev_iload_n (pc := 67) dM_bar_67 1 rfl rfl ?_
          refine ev_icmp_ne (pc := 68) (tgt := 74) dM_bar_68 (by decide) hs (fun hs => ?_) (fun hs => ?_)
          · exact hj74 _ hs
          · refine ev_bipush (pc := 71) (v := (-3)) dM_bar_71 (by decide) ?_
            exact ev_iret rfl dM_bar_73 hs
      refine ev_icmp_ne (pc := 38) (tgt := 51) dM_bar_38 (by decide) hs (fun hs => ?_) (fun hs => ?_)
      · exact hj51 _ hs
      · refine ev_aload_n (pc := 41) dM_bar_41 0 rfl rfl ?_
        refine ev_getR (pc := 42) dM_bar_42 lM_57 rfl rfl ?_
        refine ev_iload_n (pc := 45) dM_bar_45 3 rfl rfl ?_
        refine ev_iald (pc := 46) dM_bar_46 hs (fun r46 hs => ?_)
        refine ev_iload_n (pc := 47) dM_bar_47 2 rfl rfl ?_
        refine ev_icmp_eq (pc := 48) (tgt := 71) dM_bar_48 (by decide) hs (fun hs => ?_) (fun hs => ?_)
        · refine ev_bipush (pc := 71) (v := (-3)) dM_bar_71 (by decide) ?_
          exact ev_iret rfl dM_bar_73 hs
        · exact hj51 _ hs
set_option maxHeartbeats 4000000 in
set_option maxRecDepth 100000 in
theorem cM_bar {h0 : Hp} {x1 : Int32} {x2 : Int32} {post : Int32 → Hp → Prop} (hs : Sat post (fM_bar h0 x1 x2)) : Mt mM_bar 2 [.inr 28, .inl x1, .inl x2] h0 post := by
  refine mt_body (L := [(0, .inr 28), (1, .inl x1), (2, .inl x2)]) (by decide +kernel) (Nat.le_of_ble_eq_true rfl) rfl ?_
  refine ev_iload_n (pc := 0) dM_bar_0 1 rfl rfl ?_
  refine ev_callS (pc := 1) (As := [.inl x1]) (S := []) (d2 := 1) dM_bar_1 (Or.inl vM_114) zM_isMark rfl (Nat.le_of_ble_eq_true rfl) (Nat.le_of_ble_eq_true rfl) rfl rfl (fun p1 hz => cM_isMark hz) hs (fun r1 h1 hs => ?_)
  refine ev_if_eq (pc := 4) (tgt := 19) dM_bar_4 (by decide) hs (fun hs => ?_) (fun hs => ?_)
  · refine ev_iconst (pc := 19) (v := (-1)) dM_bar_19 (by decide) ?_
    exact ev_iret rfl dM_bar_20 hs
  · refine ev_iload_n (pc := 7) dM_bar_7 2 rfl rfl ?_
    refine ev_callS (pc := 8) (As := [.inl x2]) (S := []) (d2 := 1) dM_bar_8 (Or.inl vM_114) zM_isMark rfl (Nat.le_of_ble_eq_true rfl) (Nat.le_of_ble_eq_true rfl) rfl rfl (fun p1 hz => cM_isMark hz) hs (fun r8 h8 hs => ?_)
    refine ev_if_eq (pc := 11) (tgt := 19) dM_bar_11 (by decide) hs (fun hs => ?_) (fun hs => ?_)
    · refine ev_iconst (pc := 19) (v := (-1)) dM_bar_19 (by decide) ?_
      exact ev_iret rfl dM_bar_20 hs
    · refine ev_iload_n (pc := 14) dM_bar_14 1 rfl rfl ?_
      refine ev_iload_n (pc := 15) dM_bar_15 2 rfl rfl ?_
      refine ev_icmp_ne (pc := 16) (tgt := 21) dM_bar_16 (by decide) hs (fun hs => ?_) (fun hs => ?_)
      · refine ev_iconst (pc := 21) (v := 0) dM_bar_21 (by decide) ?_
        refine ev_istore_n (pc := 22) (L' := [(0, .inr 28), (1, .inl x1), (2, .inl x2), (3, .inl 0)]) dM_bar_22 rfl rfl (Nat.le_of_ble_eq_true rfl) rfl ?_
        refine cM_bar_L23 (fun h80 hs => ?_) _ _ _ hs
        refine ev_aload_n (pc := 80) dM_bar_80 0 rfl rfl ?_
        refine ev_getI (pc := 81) dM_bar_81 lM_120 rfl rfl ?_
        refine ev_bipush (pc := 84) (v := 6) dM_bar_84 (by decide) ?_
        refine ev_icmp_ne (pc := 86) (tgt := 92) dM_bar_86 (by decide) hs (fun hs => ?_) (fun hs => ?_)
        · refine ev_aload_n (pc := 92) dM_bar_92 0 rfl rfl ?_
          refine ev_getR (pc := 93) dM_bar_93 lM_54 rfl rfl ?_
          refine ev_aload_n (pc := 96) dM_bar_96 0 rfl rfl ?_
          refine ev_getI (pc := 97) dM_bar_97 lM_120 rfl rfl ?_
          refine ev_iload_n (pc := 100) dM_bar_100 1 rfl rfl ?_
          refine ev_iast (pc := 101) dM_bar_101 hs (fun h101 hs => ?_)
          refine ev_aload_n (pc := 102) dM_bar_102 0 rfl rfl ?_
          refine ev_getR (pc := 103) dM_bar_103 lM_57 rfl rfl ?_
          refine ev_aload_n (pc := 106) dM_bar_106 0 rfl rfl ?_
          refine ev_getI (pc := 107) dM_bar_107 lM_120 rfl rfl ?_
          refine ev_iload_n (pc := 110) dM_bar_110 2 rfl rfl ?_
          refine ev_iast (pc := 111) dM_bar_111 hs (fun h111 hs => ?_)
          refine ev_aload_n (pc := 112) dM_bar_112 0 rfl rfl ?_
          refine ev_dup (pc := 113) dM_bar_113 ?_
          refine ev_getI (pc := 114) dM_bar_114 lM_120 rfl rfl ?_
          refine ev_iconst (pc := 117) (v := 1) dM_bar_117 (by decide) ?_
          refine ev_iadd (pc := 118) dM_bar_118 ?_
          refine ev_putI (pc := 119) dM_bar_119 lM_120 w5_16 rfl rfl hs (fun h119 hs => ?_)
          refine ev_aload_n (pc := 122) dM_bar_122 0 rfl rfl ?_
          refine ev_getI (pc := 123) dM_bar_123 lM_120 rfl rfl ?_
          exact ev_iret rfl dM_bar_126 hs
        · refine ev_bipush (pc := 89) (v := (-2)) dM_bar_89 (by decide) ?_
          exact ev_iret rfl dM_bar_91 hs
      · refine ev_iconst (pc := 19) (v := (-1)) dM_bar_19 (by decide) ?_
        exact ev_iret rfl dM_bar_20 hs
set_option maxHeartbeats 4000000 in
set_option maxRecDepth 100000 in
theorem cM_free {h0 : Hp}  {post : Int32 → Hp → Prop} (hs : Sat post (fM_free h0 )) : Mt mM_free 0 [.inr 28] h0 post := by
  refine mt_body (L := [(0, .inr 28)]) (by decide +kernel) (Nat.le_of_ble_eq_true rfl) rfl ?_
  refine ev_aload_n (pc := 0) dM_free_0 0 rfl rfl ?_
  refine ev_getI (pc := 1) dM_free_1 lM_120 rfl rfl ?_
  refine ev_bnd hs (fun v4 hs => ?_)
  refine ev_istore_n (pc := 4) (L' := [(0, .inr 28), (1, .inl v4)]) dM_free_4 rfl rfl (Nat.le_of_ble_eq_true rfl) rfl ?_
  refine ev_aload_n (pc := 5) dM_free_5 0 rfl rfl ?_
  refine ev_iconst (pc := 6) (v := 0) dM_free_6 (by decide) ?_
  refine ev_putI (pc := 7) dM_free_7 lM_120 w5_16 rfl rfl hs (fun h7 hs => ?_)
  refine ev_iload_n (pc := 10) dM_free_10 1 rfl rfl ?_
  exact ev_iret rfl dM_free_11 hs
set_option maxHeartbeats 4000000 in
set_option maxRecDepth 100000 in
theorem cM_rowOf {h0 : Hp} {x1 : Int32} {post : Int32 → Hp → Prop} (hs : Sat post (fM_rowOf h0 x1)) : Mt mM_rowOf 0 [.inr 28, .inl x1] h0 post := by
  refine mt_body (L := [(0, .inr 28), (1, .inl x1)]) (by decide +kernel) (Nat.le_of_ble_eq_true rfl) rfl ?_
  refine ev_iload_n (pc := 0) dM_rowOf_0 1 rfl rfl ?_
  refine ev_aload_n (pc := 1) dM_rowOf_1 0 rfl rfl ?_
  refine ev_getR (pc := 2) dM_rowOf_2 lM_26 rfl rfl ?_
  refine ev_aload_n (pc := 5) dM_rowOf_5 0 rfl rfl ?_
  refine ev_getR (pc := 6) dM_rowOf_6 lM_33 rfl rfl ?_
  refine ev_iload_n (pc := 9) dM_rowOf_9 1 rfl rfl ?_
  refine ev_iald (pc := 10) dM_rowOf_10 hs (fun r10 hs => ?_)
  refine ev_iald (pc := 11) dM_rowOf_11 hs (fun r11 hs => ?_)
  refine ev_isub (pc := 12) dM_rowOf_12 ?_
  refine ev_aload_n (pc := 13) dM_rowOf_13 0 rfl rfl ?_
  refine ev_getR (pc := 14) dM_rowOf_14 lM_20 rfl rfl ?_
  refine ev_aload_n (pc := 17) dM_rowOf_17 0 rfl rfl ?_
  refine ev_getR (pc := 18) dM_rowOf_18 lM_33 rfl rfl ?_
  refine ev_iload_n (pc := 21) dM_rowOf_21 1 rfl rfl ?_
  refine ev_iald (pc := 22) dM_rowOf_22 hs (fun r22 hs => ?_)
  refine ev_iald (pc := 23) dM_rowOf_23 hs (fun r23 hs => ?_)
  refine ev_idiv (pc := 24) dM_rowOf_24 hs (fun q24 hs => ?_)
  exact ev_iret rfl dM_rowOf_25 hs
set_option maxHeartbeats 4000000 in
set_option maxRecDepth 100000 in
theorem cM_columnOf {h0 : Hp} {x1 : Int32} {post : Int32 → Hp → Prop} (hs : Sat post (fM_columnOf h0 x1)) : Mt mM_columnOf 0 [.inr 28, .inl x1] h0 post := by
  refine mt_body (L := [(0, .inr 28), (1, .inl x1)]) (by decide +kernel) (Nat.le_of_ble_eq_true rfl) rfl ?_
  refine ev_iload_n (pc := 0) dM_columnOf_0 1 rfl rfl ?_
  refine ev_aload_n (pc := 1) dM_columnOf_1 0 rfl rfl ?_
  refine ev_getR (pc := 2) dM_columnOf_2 lM_26 rfl rfl ?_
  refine ev_aload_n (pc := 5) dM_columnOf_5 0 rfl rfl ?_
  refine ev_getR (pc := 6) dM_columnOf_6 lM_33 rfl rfl ?_
  refine ev_iload_n (pc := 9) dM_columnOf_9 1 rfl rfl ?_
  refine ev_iald (pc := 10) dM_columnOf_10 hs (fun r10 hs => ?_)
  refine ev_iald (pc := 11) dM_columnOf_11 hs (fun r11 hs => ?_)
  refine ev_isub (pc := 12) dM_columnOf_12 ?_
  refine ev_aload_n (pc := 13) dM_columnOf_13 0 rfl rfl ?_
  refine ev_getR (pc := 14) dM_columnOf_14 lM_20 rfl rfl ?_
  refine ev_aload_n (pc := 17) dM_columnOf_17 0 rfl rfl ?_
  refine ev_getR (pc := 18) dM_columnOf_18 lM_33 rfl rfl ?_
  refine ev_iload_n (pc := 21) dM_columnOf_21 1 rfl rfl ?_
  refine ev_iald (pc := 22) dM_columnOf_22 hs (fun r22 hs => ?_)
  refine ev_iald (pc := 23) dM_columnOf_23 hs (fun r23 hs => ?_)
  refine ev_irem (pc := 24) dM_columnOf_24 hs (fun q24 hs => ?_)
  exact ev_iret rfl dM_columnOf_25 hs
set_option maxHeartbeats 4000000 in
set_option maxRecDepth 100000 in
theorem cM_of {h0 : Hp} {x1 : Int32} {x2 : Int32} {post : Int32 → Hp → Prop} (hs : Sat post (fM_of h0 x1 x2)) : Mt mM_of 2 [.inr 28, .inl x1, .inl x2] h0 post := by
  refine mt_body (L := [(0, .inr 28), (1, .inl x1), (2, .inl x2)]) (by decide +kernel) (Nat.le_of_ble_eq_true rfl) rfl ?_
  refine ev_aload_n (pc := 0) dM_of_0 0 rfl rfl ?_
  refine ev_iload_n (pc := 1) dM_of_1 1 rfl rfl ?_
  refine ev_callV (pc := 2) (As := [.inl x1]) (S := []) (d2 := 1) dM_of_2 vM_110 zM_isCopy rfl rfl rfl rfl (Nat.le_of_ble_eq_true rfl) (Nat.le_of_ble_eq_true rfl) rfl rfl (fun p1 hz => cM_isCopy hz) hs (fun r2 h2 hs => ?_)
  refine ev_if_eq (pc := 5) (tgt := 18) dM_of_5 (by decide) hs (fun hs => ?_) (fun hs => ?_)
  · refine ev_sipush (pc := 18) (v := (-1000)) dM_of_18 (by decide) ?_
    exact ev_iret rfl dM_of_21 hs
  · refine ev_iload_n (pc := 8) dM_of_8 2 rfl rfl ?_
    refine ev_iconst (pc := 9) (v := 0) dM_of_9 (by decide) ?_
    refine ev_bipush (pc := 10) (v := 15) dM_of_10 (by decide) ?_
    refine ev_callS (pc := 12) (As := [.inl x2, .inl 0, .inl 15]) (S := []) (d2 := 0) dM_of_12 (Or.inl vM_99) zM_in rfl (Nat.le_of_ble_eq_true rfl) (Nat.le_of_ble_eq_true rfl) rfl rfl (fun p1 hz => cM_in hz) hs (fun r12 h12 hs => ?_)
    refine ev_if_ne (pc := 15) (tgt := 22) dM_of_15 (by decide) hs (fun hs => ?_) (fun hs => ?_)
    · refine ev_iload_n (pc := 22) dM_of_22 2 rfl rfl ?_
      refine ev_tsw (pc := 23) (n := 8) (dt := 122) [68, 75, 81, 87, 94, 101, 108, 115] dM_of_23 rfl (by decide) (by decide) rfl (by decide +kernel) (by decide) hs ?_ (fun hs => ?_)
      · intro j a t ha ht hs
        match j, ha, ht with
        | 0, ha, ht =>
          cases ha
          cases ht
          refine ev_aload_n (pc := 68) dM_of_68 0 rfl rfl ?_
          refine ev_getR (pc := 69) dM_of_69 lM_33 rfl rfl ?_
          refine ev_iload_n (pc := 72) dM_of_72 1 rfl rfl ?_
          refine ev_iald (pc := 73) dM_of_73 hs (fun r73 hs => ?_)
          exact ev_iret rfl dM_of_74 hs
        | 1, ha, ht =>
          cases ha
          cases ht
          refine ev_aload_n (pc := 75) dM_of_75 0 rfl rfl ?_
          refine ev_iload_n (pc := 76) dM_of_76 1 rfl rfl ?_
          refine ev_callV (pc := 77) (As := [.inl x1]) (S := []) (d2 := 0) dM_of_77 vM_123 zM_rowOf rfl rfl rfl rfl (Nat.le_of_ble_eq_true rfl) (Nat.le_of_ble_eq_true rfl) rfl rfl (fun p1 hz => cM_rowOf hz) hs (fun r77 h77 hs => ?_)
          exact ev_iret rfl dM_of_80 hs
        | 2, ha, ht =>
          cases ha
          cases ht
          refine ev_aload_n (pc := 81) dM_of_81 0 rfl rfl ?_
          refine ev_iload_n (pc := 82) dM_of_82 1 rfl rfl ?_
          refine ev_callV (pc := 83) (As := [.inl x1]) (S := []) (d2 := 0) dM_of_83 vM_127 zM_columnOf rfl rfl rfl rfl (Nat.le_of_ble_eq_true rfl) (Nat.le_of_ble_eq_true rfl) rfl rfl (fun p1 hz => cM_columnOf hz) hs (fun r83 h83 hs => ?_)
          exact ev_iret rfl dM_of_86 hs
        | 3, ha, ht =>
          cases ha
          cases ht
          refine ev_aload_n (pc := 87) dM_of_87 0 rfl rfl ?_
          refine ev_getR (pc := 88) dM_of_88 lM_39 rfl rfl ?_
          refine ev_iload_n (pc := 91) dM_of_91 1 rfl rfl ?_
          refine ev_iald (pc := 92) dM_of_92 hs (fun r92 hs => ?_)
          exact ev_iret rfl dM_of_93 hs
        | 4, ha, ht =>
          cases ha
          cases ht
          refine ev_aload_n (pc := 94) dM_of_94 0 rfl rfl ?_
          refine ev_getR (pc := 95) dM_of_95 lM_42 rfl rfl ?_
          refine ev_iload_n (pc := 98) dM_of_98 1 rfl rfl ?_
          refine ev_iald (pc := 99) dM_of_99 hs (fun r99 hs => ?_)
          exact ev_iret rfl dM_of_100 hs
        | 5, ha, ht =>
          cases ha
          cases ht
          refine ev_aload_n (pc := 101) dM_of_101 0 rfl rfl ?_
          refine ev_getR (pc := 102) dM_of_102 lM_45 rfl rfl ?_
          refine ev_iload_n (pc := 105) dM_of_105 1 rfl rfl ?_
          refine ev_iald (pc := 106) dM_of_106 hs (fun r106 hs => ?_)
          exact ev_iret rfl dM_of_107 hs
        | 6, ha, ht =>
          cases ha
          cases ht
          refine ev_aload_n (pc := 108) dM_of_108 0 rfl rfl ?_
          refine ev_getR (pc := 109) dM_of_109 lM_48 rfl rfl ?_
          refine ev_iload_n (pc := 112) dM_of_112 1 rfl rfl ?_
          refine ev_iald (pc := 113) dM_of_113 hs (fun r113 hs => ?_)
          exact ev_iret rfl dM_of_114 hs
        | 7, ha, ht =>
          cases ha
          cases ht
          refine ev_aload_n (pc := 115) dM_of_115 0 rfl rfl ?_
          refine ev_getR (pc := 116) dM_of_116 lM_51 rfl rfl ?_
          refine ev_iload_n (pc := 119) dM_of_119 1 rfl rfl ?_
          refine ev_iald (pc := 120) dM_of_120 hs (fun r120 hs => ?_)
          exact ev_iret rfl dM_of_121 hs
        | j + 8, ha, ht => exact absurd ht (by simp)
      · refine ev_aload_n (pc := 122) dM_of_122 0 rfl rfl ?_
        refine ev_getR (pc := 123) dM_of_123 lM_36 rfl rfl ?_
        refine ev_bipush (pc := 126) (v := 8) dM_of_126 (by decide) ?_
        refine ev_iload_n (pc := 128) dM_of_128 1 rfl rfl ?_
        refine ev_imul (pc := 129) dM_of_129 ?_
        refine ev_iload_n (pc := 130) dM_of_130 2 rfl rfl ?_
        refine ev_iadd (pc := 131) dM_of_131 ?_
        refine ev_bipush (pc := 132) (v := 8) dM_of_132 (by decide) ?_
        refine ev_isub (pc := 134) dM_of_134 ?_
        refine ev_iald (pc := 135) dM_of_135 hs (fun r135 hs => ?_)
        exact ev_iret rfl dM_of_136 hs
    · refine ev_sipush (pc := 18) (v := (-1000)) dM_of_18 (by decide) ?_
      exact ev_iret rfl dM_of_21 hs
set_option maxHeartbeats 4000000 in
set_option maxRecDepth 100000 in
theorem cM_sizeOf {h0 : Hp} {x1 : Int32} {post : Int32 → Hp → Prop} (hs : Sat post (fM_sizeOf h0 x1)) : Mt mM_sizeOf 0 [.inr 28, .inl x1] h0 post := by
  refine mt_body (L := [(0, .inr 28), (1, .inl x1)]) (by decide +kernel) (Nat.le_of_ble_eq_true rfl) rfl ?_
  refine ev_aload_n (pc := 0) dM_sizeOf_0 0 rfl rfl ?_
  refine ev_getR (pc := 1) dM_sizeOf_1 lM_16 rfl rfl ?_
  refine ev_iload_n (pc := 4) dM_sizeOf_4 1 rfl rfl ?_
  refine ev_iald (pc := 5) dM_sizeOf_5 hs (fun r5 hs => ?_)
  refine ev_aload_n (pc := 6) dM_sizeOf_6 0 rfl rfl ?_
  refine ev_getR (pc := 7) dM_sizeOf_7 lM_20 rfl rfl ?_
  refine ev_iload_n (pc := 10) dM_sizeOf_10 1 rfl rfl ?_
  refine ev_iald (pc := 11) dM_sizeOf_11 hs (fun r11 hs => ?_)
  refine ev_imul (pc := 12) dM_sizeOf_12 ?_
  exact ev_iret rfl dM_sizeOf_13 hs
set_option maxHeartbeats 4000000 in
set_option maxRecDepth 100000 in
theorem cM_isForged_L28 {k95 : Int32 → Hp → RO} {x1 : Int32} {x3 : Int32} {post : Int32 → Hp → Prop} (hk95 : ∀ (y2 : Int32) (h : Hp), Sat post (k95 y2 h) → Ev mM_isForged 1 95 [(0, .inr 28), (1, .inl x1), (2, .inl y2), (3, .inl x3)] [] h post) : ∀ (n : Nat) (x2_28 : Int32) (x4_28 : Int32) (h28 : Hp), Sat post (fM_isForged_L28 k95 x1 x3 n x2_28 x4_28 h28) → Ev mM_isForged 1 28 [(0, .inr 28), (1, .inl x1), (2, .inl x2_28), (3, .inl x3), (4, .inl x4_28)] [] h28 post := by
  intro n
  induction n with
  | zero =>
    intro x2_28 x4_28 h28 hs
    exact False.elim hs
  | succ n ih =>
    intro x2_28 x4_28 h28 hs
    refine ev_iload (pc := 28) dM_isForged_28 4 rfl ?_
    refine ev_aload_n (pc := 30) dM_isForged_30 0 rfl rfl ?_
    refine ev_getI (pc := 31) dM_isForged_31 lM_120 rfl rfl ?_
    refine ev_icmp_ge (pc := 34) (tgt := 95) dM_isForged_34 (by decide) hs (fun hs => ?_) (fun hs => ?_)
    · refine ev_sub [(0, .inr 28), (1, .inl x1), (2, .inl x2_28), (3, .inl x3)] [0, 1, 2, 3] rfl ?_
      exact hk95 _ _ hs
    · refine ev_iload_n (pc := 37) dM_isForged_37 2 rfl rfl ?_
      refine ev_jn (fun (j : Int32 → Hp → RO) => ∀ (s88 : Int32) (h88 : Hp), Sat post (j s88 h88) → Ev mM_isForged 1 88 [(0, .inr 28), (1, .inl x1), (3, .inl x3), (4, .inl x4_28)] [.inl s88] h88 post) hs (fun s88 h88 hs => ?_) (fun j88 hj88 hs => ?_)
      · refine ev_istore_n (pc := 88) (L' := [(0, .inr 28), (1, .inl x1), (2, .inl s88), (3, .inl x3), (4, .inl x4_28)]) dM_isForged_88 rfl rfl (Nat.le_of_ble_eq_true rfl) rfl ?_
        refine ev_iinc (pc := 89) (L' := [(0, .inr 28), (1, .inl x1), (2, .inl s88), (3, .inl x3), (4, .inl (x4_28 + 1))]) (v := (x4_28 + 1)) dM_isForged_89 4 rfl (congrArg (HAdd.hAdd _) (by decide)) rfl (Nat.le_of_ble_eq_true rfl) rfl ?_
        refine ev_goto (pc := 92) (tgt := 28) dM_isForged_92 (by decide) ?_
        exact ih _ _ _ hs
      refine ev_jn (fun (j : Hp → RO) => ∀  (h83 : Hp), Sat post (j h83) → Ev mM_isForged 1 83 [(0, .inr 28), (1, .inl x1), (3, .inl x3), (4, .inl x4_28)] [] h83 post) hs (fun h83 hs => ?_) (fun j83 hj83 hs => ?_)
      · refine ev_iconst (pc := 83) (v := 1) dM_isForged_83 (by decide) ?_
        refine ev_goto (pc := 84) (tgt := 88) dM_isForged_84 (by decide) ?_
        exact hj88 _ _ hs
      refine ev_if_ne (pc := 38) (tgt := 83) dM_isForged_38 (by decide) hs (fun hs => ?_) (fun hs => ?_)
      · refine ev_sub [(0, .inr 28), (1, .inl x1), (3, .inl x3), (4, .inl x4_28)] [0, 1, 3, 4] rfl ?_
        exact hj83 _ hs
      · refine ev_aload_n (pc := 41) dM_isForged_41 0 rfl rfl ?_
        refine ev_getR (pc := 42) dM_isForged_42 lM_36 rfl rfl ?_
        refine ev_bipush (pc := 45) (v := 8) dM_isForged_45 (by decide) ?_
        refine ev_iload_n (pc := 47) dM_isForged_47 3 rfl rfl ?_
        refine ev_imul (pc := 48) dM_isForged_48 ?_
        refine ev_aload_n (pc := 49) dM_isForged_49 0 rfl rfl ?_
        refine ev_getR (pc := 50) dM_isForged_50 lM_54 rfl rfl ?_
        refine ev_iload (pc := 53) dM_isForged_53 4 rfl ?_
        refine ev_iald (pc := 55) dM_isForged_55 hs (fun r55 hs => ?_)
        refine ev_iadd (pc := 56) dM_isForged_56 ?_
        refine ev_iald (pc := 57) dM_isForged_57 hs (fun r57 hs => ?_)
        refine ev_iconst (pc := 58) (v := 1) dM_isForged_58 (by decide) ?_
        refine ev_jn (fun (j : Hp → RO) => ∀  (h87 : Hp), Sat post (j h87) → Ev mM_isForged 1 87 [(0, .inr 28), (1, .inl x1), (3, .inl x3), (4, .inl x4_28)] [] h87 post) hs (fun h87 hs => ?_) (fun j87 hj87 hs => ?_)
        · refine ev_iconst (pc := 87) (v := 0) dM_isForged_87 (by decide) ?_
          exact hj88 _ _ hs
        refine ev_icmp_ne (pc := 59) (tgt := 87) dM_isForged_59 (by decide) hs (fun hs => ?_) (fun hs => ?_)
        · refine ev_sub [(0, .inr 28), (1, .inl x1), (3, .inl x3), (4, .inl x4_28)] [0, 1, 3, 4] rfl ?_
          exact hj87 _ hs
        · refine ev_aload_n (pc := 62) dM_isForged_62 0 rfl rfl ?_
          refine ev_getR (pc := 63) dM_isForged_63 lM_36 rfl rfl ?_
          refine ev_bipush (pc := 66) (v := 8) dM_isForged_66 (by decide) ?_
          refine ev_iload_n (pc := 68) dM_isForged_68 3 rfl rfl ?_
          refine ev_imul (pc := 69) dM_isForged_69 ?_
          refine ev_aload_n (pc := 70) dM_isForged_70 0 rfl rfl ?_
          refine ev_getR (pc := 71) dM_isForged_71 lM_57 rfl rfl ?_
          refine ev_iload (pc := 74) dM_isForged_74 4 rfl ?_
          refine ev_iald (pc := 76) dM_isForged_76 hs (fun r76 hs => ?_)
          refine ev_iadd (pc := 77) dM_isForged_77 ?_
          refine ev_iald (pc := 78) dM_isForged_78 hs (fun r78 hs => ?_)
          refine ev_iconst (pc := 79) (v := 1) dM_isForged_79 (by decide) ?_
          refine ev_icmp_ne (pc := 80) (tgt := 87) dM_isForged_80 (by decide) hs (fun hs => ?_) (fun hs => ?_)
          · refine ev_sub [(0, .inr 28), (1, .inl x1), (3, .inl x3), (4, .inl x4_28)] [0, 1, 3, 4] rfl ?_
            exact hj87 _ hs
          · refine ev_sub [(0, .inr 28), (1, .inl x1), (3, .inl x3), (4, .inl x4_28)] [0, 1, 3, 4] rfl ?_
            exact hj83 _ hs
set_option maxHeartbeats 4000000 in
set_option maxRecDepth 100000 in
theorem cM_isForged_L9 {x1 : Int32} {post : Int32 → Hp → Prop}  : ∀ (n : Nat) (x2_9 : Int32) (x3_9 : Int32) (h9 : Hp), Sat post (fM_isForged_L9 x1 n x2_9 x3_9 h9) → Ev mM_isForged 1 9 [(0, .inr 28), (1, .inl x1), (2, .inl x2_9), (3, .inl x3_9)] [] h9 post := by
  intro n
  induction n with
  | zero =>
    intro x2_9 x3_9 h9 hs
    exact False.elim hs
  | succ n ih =>
    intro x2_9 x3_9 h9 hs
    refine ev_iload_n (pc := 9) dM_isForged_9 3 rfl rfl ?_
    refine ev_aload_n (pc := 10) dM_isForged_10 0 rfl rfl ?_
    refine ev_getR (pc := 11) dM_isForged_11 lM_26 rfl rfl ?_
    refine ev_iload_n (pc := 14) dM_isForged_14 1 rfl rfl ?_
    refine ev_iald (pc := 15) dM_isForged_15 hs (fun r15 hs => ?_)
    refine ev_aload_n (pc := 16) dM_isForged_16 0 rfl rfl ?_
    refine ev_iload_n (pc := 17) dM_isForged_17 1 rfl rfl ?_
    refine ev_callV (pc := 18) (As := [.inl x1]) (S := [.inl r15, .inl x3_9]) (d2 := 0) dM_isForged_18 vM_130 zM_sizeOf rfl rfl rfl rfl (Nat.le_of_ble_eq_true rfl) (Nat.le_of_ble_eq_true rfl) rfl rfl (fun p1 hz => cM_sizeOf hz) hs (fun r18 h18 hs => ?_)
    refine ev_iadd (pc := 21) dM_isForged_21 ?_
    refine ev_icmp_ge (pc := 22) (tgt := 101) dM_isForged_22 (by decide) hs (fun hs => ?_) (fun hs => ?_)
    · refine ev_iload_n (pc := 101) dM_isForged_101 2 rfl rfl ?_
      exact ev_zret rfl dM_isForged_102 hs
    · refine ev_iconst (pc := 25) (v := 0) dM_isForged_25 (by decide) ?_
      refine ev_istore (pc := 26) (L' := [(0, .inr 28), (1, .inl x1), (2, .inl x2_9), (3, .inl x3_9), (4, .inl 0)]) dM_isForged_26 rfl (Nat.le_of_ble_eq_true rfl) rfl ?_
      refine cM_isForged_L28 (fun x2_95 h95 hs => ?_) _ _ _ _ hs
      refine ev_iinc (pc := 95) (L' := [(0, .inr 28), (1, .inl x1), (2, .inl x2_95), (3, .inl (x3_9 + 1))]) (v := (x3_9 + 1)) dM_isForged_95 3 rfl (congrArg (HAdd.hAdd _) (by decide)) rfl (Nat.le_of_ble_eq_true rfl) rfl ?_
      refine ev_goto (pc := 98) (tgt := 9) dM_isForged_98 (by decide) ?_
      exact ih _ _ _ hs
set_option maxHeartbeats 4000000 in
set_option maxRecDepth 100000 in
theorem cM_isForged {h0 : Hp} {x1 : Int32} {post : Int32 → Hp → Prop} (hs : Sat post (fM_isForged h0 x1)) : Mt mM_isForged 1 [.inr 28, .inl x1] h0 post := by
  refine mt_body (L := [(0, .inr 28), (1, .inl x1)]) (by decide +kernel) (Nat.le_of_ble_eq_true rfl) rfl ?_
  refine ev_iconst (pc := 0) (v := 0) dM_isForged_0 (by decide) ?_
  refine ev_istore_n (pc := 1) (L' := [(0, .inr 28), (1, .inl x1), (2, .inl 0)]) dM_isForged_1 rfl rfl (Nat.le_of_ble_eq_true rfl) rfl ?_
  refine ev_aload_n (pc := 2) dM_isForged_2 0 rfl rfl ?_
  refine ev_getR (pc := 3) dM_isForged_3 lM_26 rfl rfl ?_
  refine ev_iload_n (pc := 6) dM_isForged_6 1 rfl rfl ?_
  refine ev_iald (pc := 7) dM_isForged_7 hs (fun r7 hs => ?_)
  refine ev_istore_n (pc := 8) (L' := [(0, .inr 28), (1, .inl x1), (2, .inl 0), (3, .inl r7)]) dM_isForged_8 rfl rfl (Nat.le_of_ble_eq_true rfl) rfl ?_
  exact cM_isForged_L9  _ _ _ _ hs
set_option maxHeartbeats 4000000 in
set_option maxRecDepth 100000 in
theorem cM_takesPart {h0 : Hp} {x1 : Int32} {post : Int32 → Hp → Prop} (hs : Sat post (fM_takesPart h0 x1)) : Mt mM_takesPart 2 [.inr 28, .inl x1] h0 post := by
  refine mt_body (L := [(0, .inr 28), (1, .inl x1)]) (by decide +kernel) (Nat.le_of_ble_eq_true rfl) rfl ?_
  refine ev_aload_n (pc := 0) dM_takesPart_0 0 rfl rfl ?_
  refine ev_getR (pc := 1) dM_takesPart_1 lM_29 rfl rfl ?_
  refine ev_iload_n (pc := 4) dM_takesPart_4 1 rfl rfl ?_
  refine ev_zald (pc := 5) dM_takesPart_5 hs (fun r5 hs => ?_)
  refine ev_if_ne (pc := 6) (tgt := 21) dM_takesPart_6 (by decide) hs (fun hs => ?_) (fun hs => ?_)
  · refine ev_iconst (pc := 21) (v := 0) dM_takesPart_21 (by decide) ?_
    exact ev_zret rfl dM_takesPart_22 hs
  · refine ev_aload_n (pc := 9) dM_takesPart_9 0 rfl rfl ?_
    refine ev_iload_n (pc := 10) dM_takesPart_10 1 rfl rfl ?_
    refine ev_callV (pc := 11) (As := [.inl x1]) (S := []) (d2 := 1) dM_takesPart_11 vM_133 zM_isForged rfl rfl rfl rfl (Nat.le_of_ble_eq_true rfl) (Nat.le_of_ble_eq_true rfl) rfl rfl (fun p1 hz => cM_isForged hz) hs (fun r11 h11 hs => ?_)
    refine ev_if_ne (pc := 14) (tgt := 21) dM_takesPart_14 (by decide) hs (fun hs => ?_) (fun hs => ?_)
    · refine ev_iconst (pc := 21) (v := 0) dM_takesPart_21 (by decide) ?_
      exact ev_zret rfl dM_takesPart_22 hs
    · refine ev_iconst (pc := 17) (v := 1) dM_takesPart_17 (by decide) ?_
      refine ev_goto (pc := 18) (tgt := 22) dM_takesPart_18 (by decide) ?_
      exact ev_zret rfl dM_takesPart_22 hs
set_option maxHeartbeats 4000000 in
set_option maxRecDepth 100000 in
theorem cM_told {h0 : Hp} {x1 : Int32} {x2 : Int32} {post : Int32 → Hp → Prop} (hs : Sat post (fM_told h0 x1 x2)) : Mt mM_told 3 [.inr 28, .inl x1, .inl x2] h0 post := by
  refine mt_body (L := [(0, .inr 28), (1, .inl x1), (2, .inl x2)]) (by decide +kernel) (Nat.le_of_ble_eq_true rfl) rfl ?_
  refine ev_aload_n (pc := 0) dM_told_0 0 rfl rfl ?_
  refine ev_iload_n (pc := 1) dM_told_1 1 rfl rfl ?_
  refine ev_callV (pc := 2) (As := [.inl x1]) (S := []) (d2 := 1) dM_told_2 vM_117 zM_isPiece rfl rfl rfl rfl (Nat.le_of_ble_eq_true rfl) (Nat.le_of_ble_eq_true rfl) rfl rfl (fun p1 hz => cM_isPiece hz) hs (fun r2 h2 hs => ?_)
  refine ev_if_eq (pc := 5) (tgt := 17) dM_told_5 (by decide) hs (fun hs => ?_) (fun hs => ?_)
  · refine ev_iconst (pc := 17) (v := (-1)) dM_told_17 (by decide) ?_
    exact ev_iret rfl dM_told_18 hs
  · refine ev_iload_n (pc := 8) dM_told_8 2 rfl rfl ?_
    refine ev_iconst (pc := 9) (v := 0) dM_told_9 (by decide) ?_
    refine ev_iconst (pc := 10) (v := 5) dM_told_10 (by decide) ?_
    refine ev_callS (pc := 11) (As := [.inl x2, .inl 0, .inl 5]) (S := []) (d2 := 0) dM_told_11 (Or.inl vM_99) zM_in rfl (Nat.le_of_ble_eq_true rfl) (Nat.le_of_ble_eq_true rfl) rfl rfl (fun p1 hz => cM_in hz) hs (fun r11 h11 hs => ?_)
    refine ev_if_ne (pc := 14) (tgt := 19) dM_told_14 (by decide) hs (fun hs => ?_) (fun hs => ?_)
    · refine ev_iload_n (pc := 19) dM_told_19 2 rfl rfl ?_
      refine ev_tsw (pc := 20) (n := 5) (dt := 98) [56, 63, 70, 77, 84] dM_told_20 rfl (by decide) (by decide) rfl (by decide +kernel) (by decide) hs ?_ (fun hs => ?_)
      · intro j a t ha ht hs
        match j, ha, ht with
        | 0, ha, ht =>
          cases ha
          cases ht
          refine ev_aload_n (pc := 56) dM_told_56 0 rfl rfl ?_
          refine ev_getR (pc := 57) dM_told_57 lM_16 rfl rfl ?_
          refine ev_iload_n (pc := 60) dM_told_60 1 rfl rfl ?_
          refine ev_iald (pc := 61) dM_told_61 hs (fun r61 hs => ?_)
          exact ev_iret rfl dM_told_62 hs
        | 1, ha, ht =>
          cases ha
          cases ht
          refine ev_aload_n (pc := 63) dM_told_63 0 rfl rfl ?_
          refine ev_getR (pc := 64) dM_told_64 lM_20 rfl rfl ?_
          refine ev_iload_n (pc := 67) dM_told_67 1 rfl rfl ?_
          refine ev_iald (pc := 68) dM_told_68 hs (fun r68 hs => ?_)
          exact ev_iret rfl dM_told_69 hs
        | 2, ha, ht =>
          cases ha
          cases ht
          refine ev_aload_n (pc := 70) dM_told_70 0 rfl rfl ?_
          refine ev_getR (pc := 71) dM_told_71 lM_23 rfl rfl ?_
          refine ev_iload_n (pc := 74) dM_told_74 1 rfl rfl ?_
          refine ev_iald (pc := 75) dM_told_75 hs (fun r75 hs => ?_)
          exact ev_iret rfl dM_told_76 hs
        | 3, ha, ht =>
          cases ha
          cases ht
          refine ev_aload_n (pc := 77) dM_told_77 0 rfl rfl ?_
          refine ev_getR (pc := 78) dM_told_78 lM_26 rfl rfl ?_
          refine ev_iload_n (pc := 81) dM_told_81 1 rfl rfl ?_
          refine ev_iald (pc := 82) dM_told_82 hs (fun r82 hs => ?_)
          exact ev_iret rfl dM_told_83 hs
        | 4, ha, ht =>
          cases ha
          cases ht
          refine ev_aload_n (pc := 84) dM_told_84 0 rfl rfl ?_
          refine ev_iload_n (pc := 85) dM_told_85 1 rfl rfl ?_
          refine ev_callV (pc := 86) (As := [.inl x1]) (S := []) (d2 := 1) dM_told_86 vM_133 zM_isForged rfl rfl rfl rfl (Nat.le_of_ble_eq_true rfl) (Nat.le_of_ble_eq_true rfl) rfl rfl (fun p1 hz => cM_isForged hz) hs (fun r86 h86 hs => ?_)
          refine ev_if_eq (pc := 89) (tgt := 96) dM_told_89 (by decide) hs (fun hs => ?_) (fun hs => ?_)
          · refine ev_iconst (pc := 96) (v := 0) dM_told_96 (by decide) ?_
            exact ev_iret rfl dM_told_97 hs
          · refine ev_iconst (pc := 92) (v := 1) dM_told_92 (by decide) ?_
            refine ev_goto (pc := 93) (tgt := 97) dM_told_93 (by decide) ?_
            exact ev_iret rfl dM_told_97 hs
        | j + 5, ha, ht => exact absurd ht (by simp)
      · refine ev_aload_n (pc := 98) dM_told_98 0 rfl rfl ?_
        refine ev_iload_n (pc := 99) dM_told_99 1 rfl rfl ?_
        refine ev_callV (pc := 100) (As := [.inl x1]) (S := []) (d2 := 2) dM_told_100 vM_136 zM_takesPart rfl rfl rfl rfl (Nat.le_of_ble_eq_true rfl) (Nat.le_of_ble_eq_true rfl) rfl rfl (fun p1 hz => cM_takesPart hz) hs (fun r100 h100 hs => ?_)
        refine ev_if_eq (pc := 103) (tgt := 110) dM_told_103 (by decide) hs (fun hs => ?_) (fun hs => ?_)
        · refine ev_iconst (pc := 110) (v := 0) dM_told_110 (by decide) ?_
          exact ev_iret rfl dM_told_111 hs
        · refine ev_iconst (pc := 106) (v := 1) dM_told_106 (by decide) ?_
          refine ev_goto (pc := 107) (tgt := 111) dM_told_107 (by decide) ?_
          exact ev_iret rfl dM_told_111 hs
    · refine ev_iconst (pc := 17) (v := (-1)) dM_told_17 (by decide) ?_
      exact ev_iret rfl dM_told_18 hs
set_option maxHeartbeats 4000000 in
set_option maxRecDepth 100000 in
theorem cM_places {h0 : Hp}  {post : Int32 → Hp → Prop} (hs : Sat post (fM_places h0 )) : Mt mM_places 0 [.inr 28] h0 post := by
  refine mt_body (L := [(0, .inr 28)]) (by decide +kernel) (Nat.le_of_ble_eq_true rfl) rfl ?_
  refine ev_aload_n (pc := 0) dM_places_0 0 rfl rfl ?_
  refine ev_getI (pc := 1) dM_places_1 lM_7 rfl rfl ?_
  refine ev_aload_n (pc := 4) dM_places_4 0 rfl rfl ?_
  refine ev_getI (pc := 5) dM_places_5 lM_13 rfl rfl ?_
  refine ev_imul (pc := 8) dM_places_8 ?_
  exact ev_iret rfl dM_places_9 hs
set_option maxHeartbeats 4000000 in
set_option maxRecDepth 100000 in
theorem cM_fits_L170 {x1 : Int32} {x3 : Int32} {x4 : Int32} {post : Int32 → Hp → Prop}  : ∀ (n : Nat) (x5_170 : Int32) (x6_170 : Int32) (h170 : Hp), Sat post (fM_fits_L170 x1 x3 x4 n x5_170 x6_170 h170) → Ev mM_fits 1 170 [(0, .inr 28), (1, .inl x1), (3, .inl x3), (4, .inl x4), (5, .inl x5_170), (6, .inl x6_170)] [] h170 post := by
  intro n
  induction n with
  | zero =>
    intro x5_170 x6_170 h170 hs
    exact False.elim hs
  | succ n ih =>
    intro x5_170 x6_170 h170 hs
    refine ev_iload (pc := 170) dM_fits_170 5 rfl ?_
    refine ev_aload_n (pc := 172) dM_fits_172 0 rfl rfl ?_
    refine ev_getR (pc := 173) dM_fits_173 lM_26 rfl rfl ?_
    refine ev_iload_n (pc := 176) dM_fits_176 1 rfl rfl ?_
    refine ev_iald (pc := 177) dM_fits_177 hs (fun r177 hs => ?_)
    refine ev_aload_n (pc := 178) dM_fits_178 0 rfl rfl ?_
    refine ev_iload_n (pc := 179) dM_fits_179 1 rfl rfl ?_
    refine ev_callV (pc := 180) (As := [.inl x1]) (S := [.inl r177, .inl x6_170]) (d2 := 0) dM_fits_180 vM_130 zM_sizeOf rfl rfl rfl rfl (Nat.le_of_ble_eq_true rfl) (Nat.le_of_ble_eq_true rfl) rfl rfl (fun p1 hz => cM_sizeOf hz) hs (fun r180 h180 hs => ?_)
    refine ev_iadd (pc := 183) dM_fits_183 ?_
    refine ev_icmp_ge (pc := 184) (tgt := 262) dM_fits_184 (by decide) hs (fun hs => ?_) (fun hs => ?_)
    · refine ev_iload (pc := 262) dM_fits_262 4 rfl ?_
      exact ev_zret rfl dM_fits_264 hs
    · refine ev_iload (pc := 187) dM_fits_187 4 rfl ?_
      refine ev_jn (fun (j : Int32 → Hp → RO) => ∀ (s254 : Int32) (h254 : Hp), Sat post (j s254 h254) → Ev mM_fits 1 254 [(0, .inr 28), (1, .inl x1), (3, .inl x3), (4, .inl x4), (6, .inl x6_170)] [.inl s254] h254 post) hs (fun s254 h254 hs => ?_) (fun j254 hj254 hs => ?_)
      · refine ev_istore (pc := 254) (L' := [(0, .inr 28), (1, .inl x1), (3, .inl x3), (4, .inl x4), (5, .inl s254), (6, .inl x6_170)]) dM_fits_254 rfl (Nat.le_of_ble_eq_true rfl) rfl ?_
        refine ev_iinc (pc := 256) (L' := [(0, .inr 28), (1, .inl x1), (3, .inl x3), (4, .inl x4), (5, .inl s254), (6, .inl (x6_170 + 1))]) (v := (x6_170 + 1)) dM_fits_256 5 rfl (congrArg (HAdd.hAdd _) (by decide)) rfl (Nat.le_of_ble_eq_true rfl) rfl ?_
        refine ev_goto (pc := 259) (tgt := 170) dM_fits_259 (by decide) ?_
        exact ih _ _ _ hs
      refine ev_jn (fun (j : Hp → RO) => ∀  (h253 : Hp), Sat post (j h253) → Ev mM_fits 1 253 [(0, .inr 28), (1, .inl x1), (3, .inl x3), (4, .inl x4), (6, .inl x6_170)] [] h253 post) hs (fun h253 hs => ?_) (fun j253 hj253 hs => ?_)
      · refine ev_iconst (pc := 253) (v := 0) dM_fits_253 (by decide) ?_
        exact hj254 _ _ hs
      refine ev_if_eq (pc := 189) (tgt := 253) dM_fits_189 (by decide) hs (fun hs => ?_) (fun hs => ?_)
      · refine ev_sub [(0, .inr 28), (1, .inl x1), (3, .inl x3), (4, .inl x4), (6, .inl x6_170)] [0, 1, 2, 3, 5] rfl ?_
        exact hj253 _ hs
      · refine ev_aload_n (pc := 192) dM_fits_192 0 rfl rfl ?_
        refine ev_getR (pc := 193) dM_fits_193 lM_39 rfl rfl ?_
        refine ev_iload (pc := 196) dM_fits_196 5 rfl ?_
        refine ev_iald (pc := 198) dM_fits_198 hs (fun r198 hs => ?_)
        refine ev_jn (fun (j : Hp → RO) => ∀  (h220 : Hp), Sat post (j h220) → Ev mM_fits 1 220 [(0, .inr 28), (1, .inl x1), (3, .inl x3), (4, .inl x4), (6, .inl x6_170)] [] h220 post) hs (fun h220 hs => ?_) (fun j220 hj220 hs => ?_)
        · refine ev_aload_n (pc := 220) dM_fits_220 0 rfl rfl ?_
          refine ev_getR (pc := 221) dM_fits_221 lM_42 rfl rfl ?_
          refine ev_iload (pc := 224) dM_fits_224 4 rfl ?_
          refine ev_iald (pc := 226) dM_fits_226 hs (fun r226 hs => ?_)
          refine ev_jn (fun (j : Hp → RO) => ∀  (h249 : Hp), Sat post (j h249) → Ev mM_fits 1 249 [(0, .inr 28), (1, .inl x1), (3, .inl x3), (4, .inl x4), (6, .inl x6_170)] [] h249 post) hs (fun h249 hs => ?_) (fun j249 hj249 hs => ?_)
          · refine ev_iconst (pc := 249) (v := 1) dM_fits_249 (by decide) ?_
            refine ev_goto (pc := 250) (tgt := 254) dM_fits_250 (by decide) ?_
            exact hj254 _ _ hs
          refine ev_if_lt (pc := 227) (tgt := 249) dM_fits_227 (by decide) hs (fun hs => ?_) (fun hs => ?_)
          · exact hj249 _ hs
          · refine ev_aload_n (pc := 230) dM_fits_230 0 rfl rfl ?_
            refine ev_getR (pc := 231) dM_fits_231 lM_42 rfl rfl ?_
            refine ev_iload (pc := 234) dM_fits_234 4 rfl ?_
            refine ev_iald (pc := 236) dM_fits_236 hs (fun r236 hs => ?_)
            refine ev_iload (pc := 237) dM_fits_237 3 rfl ?_
            refine ev_aload_n (pc := 239) dM_fits_239 0 rfl rfl ?_
            refine ev_iload (pc := 240) dM_fits_240 4 rfl ?_
            refine ev_callV (pc := 242) (As := [.inl x6_170]) (S := [.inl x4, .inl r236]) (d2 := 0) dM_fits_242 vM_127 zM_columnOf rfl rfl rfl rfl (Nat.le_of_ble_eq_true rfl) (Nat.le_of_ble_eq_true rfl) rfl rfl (fun p1 hz => cM_columnOf hz) hs (fun r242 h242 hs => ?_)
            refine ev_iadd (pc := 245) dM_fits_245 ?_
            refine ev_icmp_ne (pc := 246) (tgt := 253) dM_fits_246 (by decide) hs (fun hs => ?_) (fun hs => ?_)
            · exact hj253 _ hs
            · exact hj249 _ hs
        refine ev_if_lt (pc := 199) (tgt := 220) dM_fits_199 (by decide) hs (fun hs => ?_) (fun hs => ?_)
        · refine ev_sub [(0, .inr 28), (1, .inl x1), (3, .inl x3), (4, .inl x4), (6, .inl x6_170)] [0, 1, 2, 3, 5] rfl ?_
          exact hj220 _ hs
        · refine ev_aload_n (pc := 202) dM_fits_202 0 rfl rfl ?_
          refine ev_getR (pc := 203) dM_fits_203 lM_39 rfl rfl ?_
          refine ev_iload (pc := 206) dM_fits_206 5 rfl ?_
          refine ev_iald (pc := 208) dM_fits_208 hs (fun r208 hs => ?_)
          refine ev_iload_n (pc := 209) dM_fits_209 2 rfl rfl ?_
          refine ev_aload_n (pc := 210) dM_fits_210 0 rfl rfl ?_
          refine ev_iload (pc := 211) dM_fits_211 5 rfl ?_
          refine ev_callV (pc := 213) (As := [.inl x6_170]) (S := [.inl x3, .inl r208]) (d2 := 0) dM_fits_213 vM_123 zM_rowOf rfl rfl rfl rfl (Nat.le_of_ble_eq_true rfl) (Nat.le_of_ble_eq_true rfl) rfl rfl (fun p1 hz => cM_rowOf hz) hs (fun r213 h213 hs => ?_)
          refine ev_iadd (pc := 216) dM_fits_216 ?_
          refine ev_icmp_ne (pc := 217) (tgt := 253) dM_fits_217 (by decide) hs (fun hs => ?_) (fun hs => ?_)
          · refine ev_sub [(0, .inr 28), (1, .inl x1), (3, .inl x3), (4, .inl x4), (6, .inl x6_170)] [0, 1, 2, 3, 5] rfl ?_
            exact hj253 _ hs
          · refine ev_sub [(0, .inr 28), (1, .inl x1), (3, .inl x3), (4, .inl x4), (6, .inl x6_170)] [0, 1, 2, 3, 5] rfl ?_
            exact hj220 _ hs
set_option maxHeartbeats 4000000 in
set_option maxRecDepth 100000 in
theorem cM_fits {h0 : Hp} {x1 : Int32} {x2 : Int32} {post : Int32 → Hp → Prop} (hs : Sat post (fM_fits h0 x1 x2)) : Mt mM_fits 1 [.inr 28, .inl x1, .inl x2] h0 post := by
  refine mt_body (L := [(0, .inr 28), (1, .inl x1), (2, .inl x2)]) (by decide +kernel) (Nat.le_of_ble_eq_true rfl) rfl ?_
  refine ev_iload_n (pc := 0) dM_fits_0 2 rfl rfl ?_
  refine ev_aload_n (pc := 1) dM_fits_1 0 rfl rfl ?_
  refine ev_getI (pc := 2) dM_fits_2 lM_13 rfl rfl ?_
  refine ev_idiv (pc := 5) dM_fits_5 hs (fun q5 hs => ?_)
  refine ev_istore_n (pc := 6) (L' := [(0, .inr 28), (1, .inl x1), (2, .inl x2), (3, .inl q5)]) dM_fits_6 rfl rfl (Nat.le_of_ble_eq_true rfl) rfl ?_
  refine ev_iload_n (pc := 7) dM_fits_7 2 rfl rfl ?_
  refine ev_aload_n (pc := 8) dM_fits_8 0 rfl rfl ?_
  refine ev_getI (pc := 9) dM_fits_9 lM_13 rfl rfl ?_
  refine ev_irem (pc := 12) dM_fits_12 hs (fun q12 hs => ?_)
  refine ev_istore (pc := 13) (L' := [(0, .inr 28), (1, .inl x1), (2, .inl x2), (3, .inl q5), (4, .inl q12)]) dM_fits_13 rfl (Nat.le_of_ble_eq_true rfl) rfl ?_
  refine ev_iload_n (pc := 15) dM_fits_15 3 rfl rfl ?_
  refine ev_aload_n (pc := 16) dM_fits_16 0 rfl rfl ?_
  refine ev_getR (pc := 17) dM_fits_17 lM_16 rfl rfl ?_
  refine ev_iload_n (pc := 20) dM_fits_20 1 rfl rfl ?_
  refine ev_iald (pc := 21) dM_fits_21 hs (fun r21 hs => ?_)
  refine ev_iadd (pc := 22) dM_fits_22 ?_
  refine ev_aload_n (pc := 23) dM_fits_23 0 rfl rfl ?_
  refine ev_getI (pc := 24) dM_fits_24 lM_7 rfl rfl ?_
  refine ev_jn (fun (j : Int32 → Hp → RO) => ∀ (s51 : Int32) (h51 : Hp), Sat post (j s51 h51) → Ev mM_fits 1 51 [(0, .inr 28), (1, .inl x1), (3, .inl q5), (4, .inl q12)] [.inl s51] h51 post) hs (fun s51 h51 hs => ?_) (fun j51 hj51 hs => ?_)
  · refine ev_istore (pc := 51) (L' := [(0, .inr 28), (1, .inl x1), (3, .inl q5), (4, .inl q12), (5, .inl s51)]) dM_fits_51 rfl (Nat.le_of_ble_eq_true rfl) rfl ?_
    refine ev_iload (pc := 53) dM_fits_53 4 rfl ?_
    refine ev_jn (fun (j : Int32 → Hp → RO) => ∀ (s94 : Int32) (h94 : Hp), Sat post (j s94 h94) → Ev mM_fits 1 94 [(0, .inr 28), (1, .inl x1), (3, .inl q5), (4, .inl q12)] [.inl s94] h94 post) hs (fun s94 h94 hs => ?_) (fun j94 hj94 hs => ?_)
    · refine ev_istore (pc := 94) (L' := [(0, .inr 28), (1, .inl x1), (3, .inl q5), (4, .inl q12), (5, .inl s94)]) dM_fits_94 rfl (Nat.le_of_ble_eq_true rfl) rfl ?_
      refine ev_iload (pc := 96) dM_fits_96 4 rfl ?_
      refine ev_jn (fun (j : Int32 → Hp → RO) => ∀ (s160 : Int32) (h160 : Hp), Sat post (j s160 h160) → Ev mM_fits 1 160 [(0, .inr 28), (1, .inl x1), (3, .inl q5), (4, .inl q12)] [.inl s160] h160 post) hs (fun s160 h160 hs => ?_) (fun j160 hj160 hs => ?_)
      · refine ev_istore (pc := 160) (L' := [(0, .inr 28), (1, .inl x1), (3, .inl q5), (4, .inl q12), (5, .inl s160)]) dM_fits_160 rfl (Nat.le_of_ble_eq_true rfl) rfl ?_
        refine ev_aload_n (pc := 162) dM_fits_162 0 rfl rfl ?_
        refine ev_getR (pc := 163) dM_fits_163 lM_26 rfl rfl ?_
        refine ev_iload_n (pc := 166) dM_fits_166 1 rfl rfl ?_
        refine ev_iald (pc := 167) dM_fits_167 hs (fun r167 hs => ?_)
        refine ev_istore (pc := 168) (L' := [(0, .inr 28), (1, .inl x1), (3, .inl q5), (4, .inl q12), (5, .inl s160), (6, .inl r167)]) dM_fits_168 rfl (Nat.le_of_ble_eq_true rfl) rfl ?_
        exact cM_fits_L170  _ _ _ _ hs
      refine ev_jn (fun (j : Hp → RO) => ∀  (h159 : Hp), Sat post (j h159) → Ev mM_fits 1 159 [(0, .inr 28), (1, .inl x1), (3, .inl q5), (4, .inl q12)] [] h159 post) hs (fun h159 hs => ?_) (fun j159 hj159 hs => ?_)
      · refine ev_iconst (pc := 159) (v := 0) dM_fits_159 (by decide) ?_
        exact hj160 _ _ hs
      refine ev_if_eq (pc := 98) (tgt := 159) dM_fits_98 (by decide) hs (fun hs => ?_) (fun hs => ?_)
      · refine ev_sub [(0, .inr 28), (1, .inl x1), (3, .inl q5), (4, .inl q12)] [0, 1, 2, 3] rfl ?_
        exact hj159 _ hs
      · refine ev_aload_n (pc := 101) dM_fits_101 0 rfl rfl ?_
        refine ev_getR (pc := 102) dM_fits_102 lM_23 rfl rfl ?_
        refine ev_iload_n (pc := 105) dM_fits_105 1 rfl rfl ?_
        refine ev_iald (pc := 106) dM_fits_106 hs (fun r106 hs => ?_)
        refine ev_iconst (pc := 107) (v := 4) dM_fits_107 (by decide) ?_
        refine ev_iand (pc := 108) dM_fits_108 ?_
        refine ev_jn (fun (j : Hp → RO) => ∀  (h127 : Hp), Sat post (j h127) → Ev mM_fits 1 127 [(0, .inr 28), (1, .inl x1), (3, .inl q5), (4, .inl q12)] [] h127 post) hs (fun h127 hs => ?_) (fun j127 hj127 hs => ?_)
        · refine ev_aload_n (pc := 127) dM_fits_127 0 rfl rfl ?_
          refine ev_getR (pc := 128) dM_fits_128 lM_23 rfl rfl ?_
          refine ev_iload_n (pc := 131) dM_fits_131 1 rfl rfl ?_
          refine ev_iald (pc := 132) dM_fits_132 hs (fun r132 hs => ?_)
          refine ev_bipush (pc := 133) (v := 8) dM_fits_133 (by decide) ?_
          refine ev_iand (pc := 135) dM_fits_135 ?_
          refine ev_jn (fun (j : Hp → RO) => ∀  (h155 : Hp), Sat post (j h155) → Ev mM_fits 1 155 [(0, .inr 28), (1, .inl x1), (3, .inl q5), (4, .inl q12)] [] h155 post) hs (fun h155 hs => ?_) (fun j155 hj155 hs => ?_)
          · refine ev_iconst (pc := 155) (v := 1) dM_fits_155 (by decide) ?_
            refine ev_goto (pc := 156) (tgt := 160) dM_fits_156 (by decide) ?_
            exact hj160 _ _ hs
          refine ev_if_eq (pc := 136) (tgt := 155) dM_fits_136 (by decide) hs (fun hs => ?_) (fun hs => ?_)
          · exact hj155 _ hs
          · refine ev_iload (pc := 139) dM_fits_139 3 rfl ?_
            refine ev_aload_n (pc := 141) dM_fits_141 0 rfl rfl ?_
            refine ev_getR (pc := 142) dM_fits_142 lM_20 rfl rfl ?_
            refine ev_iload_n (pc := 145) dM_fits_145 1 rfl rfl ?_
            refine ev_iald (pc := 146) dM_fits_146 hs (fun r146 hs => ?_)
            refine ev_iadd (pc := 147) dM_fits_147 ?_
            refine ev_aload_n (pc := 148) dM_fits_148 0 rfl rfl ?_
            refine ev_getI (pc := 149) dM_fits_149 lM_13 rfl rfl ?_
            refine ev_icmp_ne (pc := 152) (tgt := 159) dM_fits_152 (by decide) hs (fun hs => ?_) (fun hs => ?_)
            · exact hj159 _ hs
            · exact hj155 _ hs
        refine ev_if_eq (pc := 109) (tgt := 127) dM_fits_109 (by decide) hs (fun hs => ?_) (fun hs => ?_)
        · refine ev_sub [(0, .inr 28), (1, .inl x1), (3, .inl q5), (4, .inl q12)] [0, 1, 2, 3] rfl ?_
          exact hj127 _ hs
        · refine ev_iload_n (pc := 112) dM_fits_112 2 rfl rfl ?_
          refine ev_aload_n (pc := 113) dM_fits_113 0 rfl rfl ?_
          refine ev_getR (pc := 114) dM_fits_114 lM_16 rfl rfl ?_
          refine ev_iload_n (pc := 117) dM_fits_117 1 rfl rfl ?_
          refine ev_iald (pc := 118) dM_fits_118 hs (fun r118 hs => ?_)
          refine ev_iadd (pc := 119) dM_fits_119 ?_
          refine ev_aload_n (pc := 120) dM_fits_120 0 rfl rfl ?_
          refine ev_getI (pc := 121) dM_fits_121 lM_7 rfl rfl ?_
          refine ev_icmp_ne (pc := 124) (tgt := 159) dM_fits_124 (by decide) hs (fun hs => ?_) (fun hs => ?_)
          · refine ev_sub [(0, .inr 28), (1, .inl x1), (3, .inl q5), (4, .inl q12)] [0, 1, 2, 3] rfl ?_
            exact hj159 _ hs
          · refine ev_sub [(0, .inr 28), (1, .inl x1), (3, .inl q5), (4, .inl q12)] [0, 1, 2, 3] rfl ?_
            exact hj127 _ hs
    refine ev_jn (fun (j : Hp → RO) => ∀  (h93 : Hp), Sat post (j h93) → Ev mM_fits 1 93 [(0, .inr 28), (1, .inl x1), (3, .inl q5), (4, .inl q12)] [] h93 post) hs (fun h93 hs => ?_) (fun j93 hj93 hs => ?_)
    · refine ev_iconst (pc := 93) (v := 0) dM_fits_93 (by decide) ?_
      exact hj94 _ _ hs
    refine ev_if_eq (pc := 55) (tgt := 93) dM_fits_55 (by decide) hs (fun hs => ?_) (fun hs => ?_)
    · refine ev_sub [(0, .inr 28), (1, .inl x1), (3, .inl q5), (4, .inl q12)] [0, 1, 2, 3] rfl ?_
      exact hj93 _ hs
    · refine ev_aload_n (pc := 58) dM_fits_58 0 rfl rfl ?_
      refine ev_getR (pc := 59) dM_fits_59 lM_23 rfl rfl ?_
      refine ev_iload_n (pc := 62) dM_fits_62 1 rfl rfl ?_
      refine ev_iald (pc := 63) dM_fits_63 hs (fun r63 hs => ?_)
      refine ev_iconst (pc := 64) (v := 1) dM_fits_64 (by decide) ?_
      refine ev_iand (pc := 65) dM_fits_65 ?_
      refine ev_jn (fun (j : Hp → RO) => ∀  (h73 : Hp), Sat post (j h73) → Ev mM_fits 1 73 [(0, .inr 28), (1, .inl x1), (3, .inl q5), (4, .inl q12)] [] h73 post) hs (fun h73 hs => ?_) (fun j73 hj73 hs => ?_)
      · refine ev_aload_n (pc := 73) dM_fits_73 0 rfl rfl ?_
        refine ev_getR (pc := 74) dM_fits_74 lM_23 rfl rfl ?_
        refine ev_iload_n (pc := 77) dM_fits_77 1 rfl rfl ?_
        refine ev_iald (pc := 78) dM_fits_78 hs (fun r78 hs => ?_)
        refine ev_iconst (pc := 79) (v := 2) dM_fits_79 (by decide) ?_
        refine ev_iand (pc := 80) dM_fits_80 ?_
        refine ev_jn (fun (j : Hp → RO) => ∀  (h89 : Hp), Sat post (j h89) → Ev mM_fits 1 89 [(0, .inr 28), (1, .inl x1), (3, .inl q5), (4, .inl q12)] [] h89 post) hs (fun h89 hs => ?_) (fun j89 hj89 hs => ?_)
        · refine ev_iconst (pc := 89) (v := 1) dM_fits_89 (by decide) ?_
          refine ev_goto (pc := 90) (tgt := 94) dM_fits_90 (by decide) ?_
          exact hj94 _ _ hs
        refine ev_if_eq (pc := 81) (tgt := 89) dM_fits_81 (by decide) hs (fun hs => ?_) (fun hs => ?_)
        · exact hj89 _ hs
        · refine ev_iload (pc := 84) dM_fits_84 3 rfl ?_
          refine ev_if_ne (pc := 86) (tgt := 93) dM_fits_86 (by decide) hs (fun hs => ?_) (fun hs => ?_)
          · exact hj93 _ hs
          · exact hj89 _ hs
      refine ev_if_eq (pc := 66) (tgt := 73) dM_fits_66 (by decide) hs (fun hs => ?_) (fun hs => ?_)
      · refine ev_sub [(0, .inr 28), (1, .inl x1), (3, .inl q5), (4, .inl q12)] [0, 1, 2, 3] rfl ?_
        exact hj73 _ hs
      · refine ev_iload_n (pc := 69) dM_fits_69 2 rfl rfl ?_
        refine ev_if_ne (pc := 70) (tgt := 93) dM_fits_70 (by decide) hs (fun hs => ?_) (fun hs => ?_)
        · refine ev_sub [(0, .inr 28), (1, .inl x1), (3, .inl q5), (4, .inl q12)] [0, 1, 2, 3] rfl ?_
          exact hj93 _ hs
        · refine ev_sub [(0, .inr 28), (1, .inl x1), (3, .inl q5), (4, .inl q12)] [0, 1, 2, 3] rfl ?_
          exact hj73 _ hs
  refine ev_jn (fun (j : Hp → RO) => ∀  (h50 : Hp), Sat post (j h50) → Ev mM_fits 1 50 [(0, .inr 28), (1, .inl x1), (3, .inl q5), (4, .inl q12)] [] h50 post) hs (fun h50 hs => ?_) (fun j50 hj50 hs => ?_)
  · refine ev_iconst (pc := 50) (v := 0) dM_fits_50 (by decide) ?_
    exact hj51 _ _ hs
  refine ev_icmp_gt (pc := 27) (tgt := 50) dM_fits_27 (by decide) hs (fun hs => ?_) (fun hs => ?_)
  · refine ev_sub [(0, .inr 28), (1, .inl x1), (3, .inl q5), (4, .inl q12)] [0, 1, 3, 4] rfl ?_
    exact hj50 _ hs
  · refine ev_iload (pc := 30) dM_fits_30 4 rfl ?_
    refine ev_aload_n (pc := 32) dM_fits_32 0 rfl rfl ?_
    refine ev_getR (pc := 33) dM_fits_33 lM_20 rfl rfl ?_
    refine ev_iload_n (pc := 36) dM_fits_36 1 rfl rfl ?_
    refine ev_iald (pc := 37) dM_fits_37 hs (fun r37 hs => ?_)
    refine ev_iadd (pc := 38) dM_fits_38 ?_
    refine ev_aload_n (pc := 39) dM_fits_39 0 rfl rfl ?_
    refine ev_getI (pc := 40) dM_fits_40 lM_13 rfl rfl ?_
    refine ev_icmp_gt (pc := 43) (tgt := 50) dM_fits_43 (by decide) hs (fun hs => ?_) (fun hs => ?_)
    · refine ev_sub [(0, .inr 28), (1, .inl x1), (3, .inl q5), (4, .inl q12)] [0, 1, 3, 4] rfl ?_
      exact hj50 _ hs
    · refine ev_iconst (pc := 46) (v := 1) dM_fits_46 (by decide) ?_
      refine ev_goto (pc := 47) (tgt := 51) dM_fits_47 (by decide) ?_
      refine ev_sub [(0, .inr 28), (1, .inl x1), (3, .inl q5), (4, .inl q12)] [0, 1, 3, 4] rfl ?_
      exact hj51 _ _ hs
set_option maxHeartbeats 4000000 in
set_option maxRecDepth 100000 in
theorem cM_spot {h0 : Hp} {x1 : Int32} {x2 : Int32} {post : Int32 → Hp → Prop} (hs : Sat post (fM_spot h0 x1 x2)) : Mt mM_spot 1 [.inr 28, .inl x1, .inl x2] h0 post := by
  refine mt_body (L := [(0, .inr 28), (1, .inl x1), (2, .inl x2)]) (by decide +kernel) (Nat.le_of_ble_eq_true rfl) rfl ?_
  refine ev_iload_n (pc := 0) dM_spot_0 2 rfl rfl ?_
  refine ev_aload_n (pc := 1) dM_spot_1 0 rfl rfl ?_
  refine ev_iload_n (pc := 2) dM_spot_2 1 rfl rfl ?_
  refine ev_callV (pc := 3) (As := [.inl x1]) (S := [.inl x2]) (d2 := 0) dM_spot_3 vM_123 zM_rowOf rfl rfl rfl rfl (Nat.le_of_ble_eq_true rfl) (Nat.le_of_ble_eq_true rfl) rfl rfl (fun p1 hz => cM_rowOf hz) hs (fun r3 h3 hs => ?_)
  refine ev_aload_n (pc := 6) dM_spot_6 0 rfl rfl ?_
  refine ev_getI (pc := 7) dM_spot_7 lM_13 rfl rfl ?_
  refine ev_imul (pc := 10) dM_spot_10 ?_
  refine ev_iadd (pc := 11) dM_spot_11 ?_
  refine ev_aload_n (pc := 12) dM_spot_12 0 rfl rfl ?_
  refine ev_iload_n (pc := 13) dM_spot_13 1 rfl rfl ?_
  refine ev_callV (pc := 14) (As := [.inl x1]) (S := [.inl (x2 + (r3 * (h3 28 1)))]) (d2 := 0) dM_spot_14 vM_127 zM_columnOf rfl rfl rfl rfl (Nat.le_of_ble_eq_true rfl) (Nat.le_of_ble_eq_true rfl) rfl rfl (fun p1 hz => cM_columnOf hz) hs (fun r14 h14 hs => ?_)
  refine ev_iadd (pc := 17) dM_spot_17 ?_
  exact ev_iret rfl dM_spot_18 hs
set_option maxHeartbeats 4000000 in
set_option maxRecDepth 100000 in
theorem cM_quarrelOf_L56 {k128 : Int32 → Hp → RO} {x1 : Int32} {x2 : Int32} {x3 : Int32} {x4 : Int32} {x6 : Int32} {x7 : Int32} {post : Int32 → Hp → Prop} (hk128 : ∀ (y5 : Int32) (h : Hp), Sat post (k128 y5 h) → Ev mM_quarrelOf 2 128 [(0, .inr 28), (1, .inl x1), (2, .inl x2), (3, .inl x3), (4, .inl x4), (5, .inl y5), (6, .inl x6), (7, .inl x7)] [] h post) : ∀ (n : Nat) (x5_56 : Int32) (x8_56 : Int32) (h56 : Hp), Sat post (fM_quarrelOf_L56 k128 x1 x2 x3 x4 x6 x7 n x5_56 x8_56 h56) → Ev mM_quarrelOf 2 56 [(0, .inr 28), (1, .inl x1), (2, .inl x2), (3, .inl x3), (4, .inl x4), (5, .inl x5_56), (6, .inl x6), (7, .inl x7), (8, .inl x8_56)] [] h56 post := by
  intro n
  induction n with
  | zero =>
    intro x5_56 x8_56 h56 hs
    exact False.elim hs
  | succ n ih =>
    intro x5_56 x8_56 h56 hs
    refine ev_iload (pc := 56) dM_quarrelOf_56 8 rfl ?_
    refine ev_bipush (pc := 58) (v := 8) dM_quarrelOf_58 (by decide) ?_
    refine ev_icmp_ge (pc := 60) (tgt := 128) dM_quarrelOf_60 (by decide) hs (fun hs => ?_) (fun hs => ?_)
    · refine ev_sub [(0, .inr 28), (1, .inl x1), (2, .inl x2), (3, .inl x3), (4, .inl x4), (5, .inl x5_56), (6, .inl x6), (7, .inl x7)] [0, 1, 2, 3, 4, 5, 6, 7] rfl ?_
      exact hk128 _ _ hs
    · refine ev_aload_n (pc := 63) dM_quarrelOf_63 0 rfl rfl ?_
      refine ev_iload (pc := 64) dM_quarrelOf_64 6 rfl ?_
      refine ev_iload_n (pc := 66) dM_quarrelOf_66 2 rfl rfl ?_
      refine ev_callV (pc := 67) (As := [.inl x6, .inl x2]) (S := []) (d2 := 1) dM_quarrelOf_67 vM_139 zM_spot rfl rfl rfl rfl (Nat.le_of_ble_eq_true rfl) (Nat.le_of_ble_eq_true rfl) rfl rfl (fun p1 hz => cM_spot hz) hs (fun r67 h67 hs => ?_)
      refine ev_aload_n (pc := 70) dM_quarrelOf_70 0 rfl rfl ?_
      refine ev_iload (pc := 71) dM_quarrelOf_71 7 rfl ?_
      refine ev_iload (pc := 73) dM_quarrelOf_73 4 rfl ?_
      refine ev_callV (pc := 75) (As := [.inl x7, .inl x4]) (S := [.inl r67]) (d2 := 1) dM_quarrelOf_75 vM_139 zM_spot rfl rfl rfl rfl (Nat.le_of_ble_eq_true rfl) (Nat.le_of_ble_eq_true rfl) rfl rfl (fun p1 hz => cM_spot hz) hs (fun r75 h75 hs => ?_)
      refine ev_icmp_ne (pc := 78) (tgt := 128) dM_quarrelOf_78 (by decide) hs (fun hs => ?_) (fun hs => ?_)
      · refine ev_sub [(0, .inr 28), (1, .inl x1), (2, .inl x2), (3, .inl x3), (4, .inl x4), (5, .inl x5_56), (6, .inl x6), (7, .inl x7)] [0, 1, 2, 3, 4, 5, 6, 7] rfl ?_
        exact hk128 _ _ hs
      · refine ev_iload (pc := 81) dM_quarrelOf_81 5 rfl ?_
        refine ev_aload_n (pc := 83) dM_quarrelOf_83 0 rfl rfl ?_
        refine ev_getR (pc := 84) dM_quarrelOf_84 lM_36 rfl rfl ?_
        refine ev_bipush (pc := 87) (v := 8) dM_quarrelOf_87 (by decide) ?_
        refine ev_iload (pc := 89) dM_quarrelOf_89 6 rfl ?_
        refine ev_imul (pc := 91) dM_quarrelOf_91 ?_
        refine ev_iload (pc := 92) dM_quarrelOf_92 8 rfl ?_
        refine ev_iadd (pc := 94) dM_quarrelOf_94 ?_
        refine ev_iald (pc := 95) dM_quarrelOf_95 hs (fun r95 hs => ?_)
        refine ev_aload_n (pc := 96) dM_quarrelOf_96 0 rfl rfl ?_
        refine ev_getR (pc := 97) dM_quarrelOf_97 lM_36 rfl rfl ?_
        refine ev_bipush (pc := 100) (v := 8) dM_quarrelOf_100 (by decide) ?_
        refine ev_iload (pc := 102) dM_quarrelOf_102 7 rfl ?_
        refine ev_imul (pc := 104) dM_quarrelOf_104 ?_
        refine ev_iload (pc := 105) dM_quarrelOf_105 8 rfl ?_
        refine ev_iadd (pc := 107) dM_quarrelOf_107 ?_
        refine ev_iald (pc := 108) dM_quarrelOf_108 hs (fun r108 hs => ?_)
        refine ev_iadd (pc := 109) dM_quarrelOf_109 ?_
        refine ev_iconst (pc := 110) (v := 1) dM_quarrelOf_110 (by decide) ?_
        refine ev_jn (fun (j : Int32 → Hp → RO) => ∀ (s119 : Int32) (h119 : Hp), Sat post (j s119 h119) → Ev mM_quarrelOf 2 119 [(0, .inr 28), (1, .inl x1), (2, .inl x2), (3, .inl x3), (4, .inl x4), (6, .inl x6), (7, .inl x7), (8, .inl x8_56)] [.inl s119, .inl x5_56] h119 post) hs (fun s119 h119 hs => ?_) (fun j119 hj119 hs => ?_)
        · refine ev_iadd (pc := 119) dM_quarrelOf_119 ?_
          refine ev_bnd hs (fun v120 hs => ?_)
          refine ev_istore (pc := 120) (L' := [(0, .inr 28), (1, .inl x1), (2, .inl x2), (3, .inl x3), (4, .inl x4), (5, .inl v120), (6, .inl x6), (7, .inl x7), (8, .inl x8_56)]) dM_quarrelOf_120 rfl (Nat.le_of_ble_eq_true rfl) rfl ?_
          refine ev_iinc (pc := 122) (L' := [(0, .inr 28), (1, .inl x1), (2, .inl x2), (3, .inl x3), (4, .inl x4), (5, .inl v120), (6, .inl x6), (7, .inl x7), (8, .inl (x8_56 + 1))]) (v := (x8_56 + 1)) dM_quarrelOf_122 8 rfl (congrArg (HAdd.hAdd _) (by decide)) rfl (Nat.le_of_ble_eq_true rfl) rfl ?_
          refine ev_goto (pc := 125) (tgt := 56) dM_quarrelOf_125 (by decide) ?_
          exact ih _ _ _ hs
        refine ev_icmp_ne (pc := 111) (tgt := 118) dM_quarrelOf_111 (by decide) hs (fun hs => ?_) (fun hs => ?_)
        · refine ev_iconst (pc := 118) (v := 0) dM_quarrelOf_118 (by decide) ?_
          refine ev_sub [(0, .inr 28), (1, .inl x1), (2, .inl x2), (3, .inl x3), (4, .inl x4), (6, .inl x6), (7, .inl x7), (8, .inl x8_56)] [0, 1, 2, 3, 4, 6, 7, 8] rfl ?_
          exact hj119 _ _ hs
        · refine ev_iconst (pc := 114) (v := 1) dM_quarrelOf_114 (by decide) ?_
          refine ev_goto (pc := 115) (tgt := 119) dM_quarrelOf_115 (by decide) ?_
          refine ev_sub [(0, .inr 28), (1, .inl x1), (2, .inl x2), (3, .inl x3), (4, .inl x4), (6, .inl x6), (7, .inl x7), (8, .inl x8_56)] [0, 1, 2, 3, 4, 6, 7, 8] rfl ?_
          exact hj119 _ _ hs
set_option maxHeartbeats 4000000 in
set_option maxRecDepth 100000 in
theorem cM_quarrelOf_L36 {k134 : Int32 → Hp → RO} {x1 : Int32} {x2 : Int32} {x3 : Int32} {x4 : Int32} {x6 : Int32} {post : Int32 → Hp → Prop} (hk134 : ∀ (y5 : Int32) (h : Hp), Sat post (k134 y5 h) → Ev mM_quarrelOf 2 134 [(0, .inr 28), (1, .inl x1), (2, .inl x2), (3, .inl x3), (4, .inl x4), (5, .inl y5), (6, .inl x6)] [] h post) : ∀ (n : Nat) (x5_36 : Int32) (x7_36 : Int32) (h36 : Hp), Sat post (fM_quarrelOf_L36 k134 x1 x2 x3 x4 x6 n x5_36 x7_36 h36) → Ev mM_quarrelOf 2 36 [(0, .inr 28), (1, .inl x1), (2, .inl x2), (3, .inl x3), (4, .inl x4), (5, .inl x5_36), (6, .inl x6), (7, .inl x7_36)] [] h36 post := by
  intro n
  induction n with
  | zero =>
    intro x5_36 x7_36 h36 hs
    exact False.elim hs
  | succ n ih =>
    intro x5_36 x7_36 h36 hs
    refine ev_iload (pc := 36) dM_quarrelOf_36 7 rfl ?_
    refine ev_aload_n (pc := 38) dM_quarrelOf_38 0 rfl rfl ?_
    refine ev_getR (pc := 39) dM_quarrelOf_39 lM_26 rfl rfl ?_
    refine ev_iload_n (pc := 42) dM_quarrelOf_42 3 rfl rfl ?_
    refine ev_iald (pc := 43) dM_quarrelOf_43 hs (fun r43 hs => ?_)
    refine ev_aload_n (pc := 44) dM_quarrelOf_44 0 rfl rfl ?_
    refine ev_iload_n (pc := 45) dM_quarrelOf_45 3 rfl rfl ?_
    refine ev_callV (pc := 46) (As := [.inl x3]) (S := [.inl r43, .inl x7_36]) (d2 := 0) dM_quarrelOf_46 vM_130 zM_sizeOf rfl rfl rfl rfl (Nat.le_of_ble_eq_true rfl) (Nat.le_of_ble_eq_true rfl) rfl rfl (fun p1 hz => cM_sizeOf hz) hs (fun r46 h46 hs => ?_)
    refine ev_iadd (pc := 49) dM_quarrelOf_49 ?_
    refine ev_icmp_ge (pc := 50) (tgt := 134) dM_quarrelOf_50 (by decide) hs (fun hs => ?_) (fun hs => ?_)
    · refine ev_sub [(0, .inr 28), (1, .inl x1), (2, .inl x2), (3, .inl x3), (4, .inl x4), (5, .inl x5_36), (6, .inl x6)] [0, 1, 2, 3, 4, 5, 6] rfl ?_
      exact hk134 _ _ hs
    · refine ev_iconst (pc := 53) (v := 0) dM_quarrelOf_53 (by decide) ?_
      refine ev_istore (pc := 54) (L' := [(0, .inr 28), (1, .inl x1), (2, .inl x2), (3, .inl x3), (4, .inl x4), (5, .inl x5_36), (6, .inl x6), (7, .inl x7_36), (8, .inl 0)]) dM_quarrelOf_54 rfl (Nat.le_of_ble_eq_true rfl) rfl ?_
      refine cM_quarrelOf_L56 (fun x5_128 h128 hs => ?_) _ _ _ _ hs
      refine ev_iinc (pc := 128) (L' := [(0, .inr 28), (1, .inl x1), (2, .inl x2), (3, .inl x3), (4, .inl x4), (5, .inl x5_128), (6, .inl x6), (7, .inl (x7_36 + 1))]) (v := (x7_36 + 1)) dM_quarrelOf_128 7 rfl (congrArg (HAdd.hAdd _) (by decide)) rfl (Nat.le_of_ble_eq_true rfl) rfl ?_
      refine ev_goto (pc := 131) (tgt := 36) dM_quarrelOf_131 (by decide) ?_
      exact ih _ _ _ hs
set_option maxHeartbeats 4000000 in
set_option maxRecDepth 100000 in
theorem cM_quarrelOf_L11 {x1 : Int32} {x2 : Int32} {x3 : Int32} {x4 : Int32} {post : Int32 → Hp → Prop}  : ∀ (n : Nat) (x5_11 : Int32) (x6_11 : Int32) (h11 : Hp), Sat post (fM_quarrelOf_L11 x1 x2 x3 x4 n x5_11 x6_11 h11) → Ev mM_quarrelOf 2 11 [(0, .inr 28), (1, .inl x1), (2, .inl x2), (3, .inl x3), (4, .inl x4), (5, .inl x5_11), (6, .inl x6_11)] [] h11 post := by
  intro n
  induction n with
  | zero =>
    intro x5_11 x6_11 h11 hs
    exact False.elim hs
  | succ n ih =>
    intro x5_11 x6_11 h11 hs
    refine ev_iload (pc := 11) dM_quarrelOf_11 6 rfl ?_
    refine ev_aload_n (pc := 13) dM_quarrelOf_13 0 rfl rfl ?_
    refine ev_getR (pc := 14) dM_quarrelOf_14 lM_26 rfl rfl ?_
    refine ev_iload_n (pc := 17) dM_quarrelOf_17 1 rfl rfl ?_
    refine ev_iald (pc := 18) dM_quarrelOf_18 hs (fun r18 hs => ?_)
    refine ev_aload_n (pc := 19) dM_quarrelOf_19 0 rfl rfl ?_
    refine ev_iload_n (pc := 20) dM_quarrelOf_20 1 rfl rfl ?_
    refine ev_callV (pc := 21) (As := [.inl x1]) (S := [.inl r18, .inl x6_11]) (d2 := 0) dM_quarrelOf_21 vM_130 zM_sizeOf rfl rfl rfl rfl (Nat.le_of_ble_eq_true rfl) (Nat.le_of_ble_eq_true rfl) rfl rfl (fun p1 hz => cM_sizeOf hz) hs (fun r21 h21 hs => ?_)
    refine ev_iadd (pc := 24) dM_quarrelOf_24 ?_
    refine ev_icmp_ge (pc := 25) (tgt := 140) dM_quarrelOf_25 (by decide) hs (fun hs => ?_) (fun hs => ?_)
    · refine ev_iload (pc := 140) dM_quarrelOf_140 5 rfl ?_
      exact ev_iret rfl dM_quarrelOf_142 hs
    · refine ev_aload_n (pc := 28) dM_quarrelOf_28 0 rfl rfl ?_
      refine ev_getR (pc := 29) dM_quarrelOf_29 lM_26 rfl rfl ?_
      refine ev_iload_n (pc := 32) dM_quarrelOf_32 3 rfl rfl ?_
      refine ev_iald (pc := 33) dM_quarrelOf_33 hs (fun r33 hs => ?_)
      refine ev_istore (pc := 34) (L' := [(0, .inr 28), (1, .inl x1), (2, .inl x2), (3, .inl x3), (4, .inl x4), (5, .inl x5_11), (6, .inl x6_11), (7, .inl r33)]) dM_quarrelOf_34 rfl (Nat.le_of_ble_eq_true rfl) rfl ?_
      refine cM_quarrelOf_L36 (fun x5_134 h134 hs => ?_) _ _ _ _ hs
      refine ev_iinc (pc := 134) (L' := [(0, .inr 28), (1, .inl x1), (2, .inl x2), (3, .inl x3), (4, .inl x4), (5, .inl x5_134), (6, .inl (x6_11 + 1))]) (v := (x6_11 + 1)) dM_quarrelOf_134 6 rfl (congrArg (HAdd.hAdd _) (by decide)) rfl (Nat.le_of_ble_eq_true rfl) rfl ?_
      refine ev_goto (pc := 137) (tgt := 11) dM_quarrelOf_137 (by decide) ?_
      exact ih _ _ _ hs
set_option maxHeartbeats 4000000 in
set_option maxRecDepth 100000 in
theorem cM_quarrelOf {h0 : Hp} {x1 : Int32} {x2 : Int32} {x3 : Int32} {x4 : Int32} {post : Int32 → Hp → Prop} (hs : Sat post (fM_quarrelOf h0 x1 x2 x3 x4)) : Mt mM_quarrelOf 2 [.inr 28, .inl x1, .inl x2, .inl x3, .inl x4] h0 post := by
  refine mt_body (L := [(0, .inr 28), (1, .inl x1), (2, .inl x2), (3, .inl x3), (4, .inl x4)]) (by decide +kernel) (Nat.le_of_ble_eq_true rfl) rfl ?_
  refine ev_iconst (pc := 0) (v := 0) dM_quarrelOf_0 (by decide) ?_
  refine ev_istore (pc := 1) (L' := [(0, .inr 28), (1, .inl x1), (2, .inl x2), (3, .inl x3), (4, .inl x4), (5, .inl 0)]) dM_quarrelOf_1 rfl (Nat.le_of_ble_eq_true rfl) rfl ?_
  refine ev_aload_n (pc := 3) dM_quarrelOf_3 0 rfl rfl ?_
  refine ev_getR (pc := 4) dM_quarrelOf_4 lM_26 rfl rfl ?_
  refine ev_iload_n (pc := 7) dM_quarrelOf_7 1 rfl rfl ?_
  refine ev_iald (pc := 8) dM_quarrelOf_8 hs (fun r8 hs => ?_)
  refine ev_istore (pc := 9) (L' := [(0, .inr 28), (1, .inl x1), (2, .inl x2), (3, .inl x3), (4, .inl x4), (5, .inl 0), (6, .inl r8)]) dM_quarrelOf_9 rfl (Nat.le_of_ble_eq_true rfl) rfl ?_
  exact cM_quarrelOf_L11  _ _ _ _ hs
set_option maxHeartbeats 4000000 in
set_option maxRecDepth 100000 in
theorem cM_prepare_L7 {k49 : Hp → RO} {post : Int32 → Hp → Prop} (hk49 : ∀  (h : Hp), Sat post (k49 h) → Ev mM_prepare 3 49 [(0, .inr 28)] [] h post) : ∀ (n : Nat) (x1_7 : Int32) (h7 : Hp), Sat post (fM_prepare_L7 k49 n x1_7 h7) → Ev mM_prepare 3 7 [(0, .inr 28), (1, .inl x1_7)] [] h7 post := by
  intro n
  induction n with
  | zero =>
    intro x1_7 h7 hs
    exact False.elim hs
  | succ n ih =>
    intro x1_7 h7 hs
    refine ev_iload_n (pc := 7) dM_prepare_7 1 rfl rfl ?_
    refine ev_aload_n (pc := 8) dM_prepare_8 0 rfl rfl ?_
    refine ev_getI (pc := 9) dM_prepare_9 lM_103 rfl rfl ?_
    refine ev_icmp_ge (pc := 12) (tgt := 49) dM_prepare_12 (by decide) hs (fun hs => ?_) (fun hs => ?_)
    · refine ev_sub [(0, .inr 28)] [0] rfl ?_
      exact hk49 _ hs
    · refine ev_aload_n (pc := 15) dM_prepare_15 0 rfl rfl ?_
      refine ev_iload_n (pc := 16) dM_prepare_16 1 rfl rfl ?_
      refine ev_callV (pc := 17) (As := [.inl x1_7]) (S := []) (d2 := 2) dM_prepare_17 vM_136 zM_takesPart rfl rfl rfl rfl (Nat.le_of_ble_eq_true rfl) (Nat.le_of_ble_eq_true rfl) rfl rfl (fun p1 hz => cM_takesPart hz) hs (fun r17 h17 hs => ?_)
      refine ev_jn (fun (j : Hp → RO) => ∀  (h43 : Hp), Sat post (j h43) → Ev mM_prepare 3 43 [(0, .inr 28), (1, .inl x1_7)] [] h43 post) hs (fun h43 hs => ?_) (fun j43 hj43 hs => ?_)
      · refine ev_iinc (pc := 43) (L' := [(0, .inr 28), (1, .inl (x1_7 + 1))]) (v := (x1_7 + 1)) dM_prepare_43 1 rfl (congrArg (HAdd.hAdd _) (by decide)) rfl (Nat.le_of_ble_eq_true rfl) rfl ?_
        refine ev_goto (pc := 46) (tgt := 7) dM_prepare_46 (by decide) ?_
        exact ih _ _ hs
      refine ev_if_eq (pc := 20) (tgt := 43) dM_prepare_20 (by decide) hs (fun hs => ?_) (fun hs => ?_)
      · exact hj43 _ hs
      · refine ev_aload_n (pc := 23) dM_prepare_23 0 rfl rfl ?_
        refine ev_getR (pc := 24) dM_prepare_24 lM_75 rfl rfl ?_
        refine ev_aload_n (pc := 27) dM_prepare_27 0 rfl rfl ?_
        refine ev_getI (pc := 28) dM_prepare_28 lM_143 rfl rfl ?_
        refine ev_iload_n (pc := 31) dM_prepare_31 1 rfl rfl ?_
        refine ev_iast (pc := 32) dM_prepare_32 hs (fun h32 hs => ?_)
        refine ev_aload_n (pc := 33) dM_prepare_33 0 rfl rfl ?_
        refine ev_dup (pc := 34) dM_prepare_34 ?_
        refine ev_getI (pc := 35) dM_prepare_35 lM_143 rfl rfl ?_
        refine ev_iconst (pc := 38) (v := 1) dM_prepare_38 (by decide) ?_
        refine ev_iadd (pc := 39) dM_prepare_39 ?_
        refine ev_putI (pc := 40) dM_prepare_40 lM_143 w5_25 rfl rfl hs (fun h40 hs => ?_)
        exact hj43 _ hs
set_option maxHeartbeats 4000000 in
set_option maxRecDepth 100000 in
theorem cM_prepare_L61 {k97 : Hp → RO} {x1 : Int32} {post : Int32 → Hp → Prop} (hk97 : ∀  (h : Hp), Sat post (k97 h) → Ev mM_prepare 3 97 [(0, .inr 28), (1, .inl x1)] [] h post) : ∀ (n : Nat) (x2_61 : Int32) (h61 : Hp), Sat post (fM_prepare_L61 k97 x1 n x2_61 h61) → Ev mM_prepare 3 61 [(0, .inr 28), (1, .inl x1), (2, .inl x2_61)] [] h61 post := by
  intro n
  induction n with
  | zero =>
    intro x2_61 h61 hs
    exact False.elim hs
  | succ n ih =>
    intro x2_61 h61 hs
    refine ev_iload_n (pc := 61) dM_prepare_61 2 rfl rfl ?_
    refine ev_aload_n (pc := 62) dM_prepare_62 0 rfl rfl ?_
    refine ev_callV (pc := 63) (As := []) (S := [.inl x2_61]) (d2 := 0) dM_prepare_63 vM_106 zM_places rfl rfl rfl rfl (Nat.le_of_ble_eq_true rfl) (Nat.le_of_ble_eq_true rfl) rfl rfl (fun p1 hz => cM_places hz) hs (fun r63 h63 hs => ?_)
    refine ev_icmp_ge (pc := 66) (tgt := 97) dM_prepare_66 (by decide) hs (fun hs => ?_) (fun hs => ?_)
    · refine ev_sub [(0, .inr 28), (1, .inl x1)] [0, 1] rfl ?_
      exact hk97 _ hs
    · refine ev_aload_n (pc := 69) dM_prepare_69 0 rfl rfl ?_
      refine ev_getR (pc := 70) dM_prepare_70 lM_78 rfl rfl ?_
      refine ev_bipush (pc := 73) (v := 9) dM_prepare_73 (by decide) ?_
      refine ev_iload_n (pc := 75) dM_prepare_75 1 rfl rfl ?_
      refine ev_imul (pc := 76) dM_prepare_76 ?_
      refine ev_iload_n (pc := 77) dM_prepare_77 2 rfl rfl ?_
      refine ev_iadd (pc := 78) dM_prepare_78 ?_
      refine ev_aload_n (pc := 79) dM_prepare_79 0 rfl rfl ?_
      refine ev_aload_n (pc := 80) dM_prepare_80 0 rfl rfl ?_
      refine ev_getR (pc := 81) dM_prepare_81 lM_75 rfl rfl ?_
      refine ev_iload_n (pc := 84) dM_prepare_84 1 rfl rfl ?_
      refine ev_iald (pc := 85) dM_prepare_85 hs (fun r85 hs => ?_)
      refine ev_iload_n (pc := 86) dM_prepare_86 2 rfl rfl ?_
      refine ev_callV (pc := 87) (As := [.inl r85, .inl x2_61]) (S := [.inl ((9 * x1) + x2_61), .inr 49]) (d2 := 1) dM_prepare_87 vM_146 zM_fits rfl rfl rfl rfl (Nat.le_of_ble_eq_true rfl) (Nat.le_of_ble_eq_true rfl) rfl rfl (fun p1 hz => cM_fits hz) hs (fun r87 h87 hs => ?_)
      refine ev_zast (pc := 90) dM_prepare_90 hs (fun h90 hs => ?_)
      refine ev_iinc (pc := 91) (L' := [(0, .inr 28), (1, .inl x1), (2, .inl (x2_61 + 1))]) (v := (x2_61 + 1)) dM_prepare_91 2 rfl (congrArg (HAdd.hAdd _) (by decide)) rfl (Nat.le_of_ble_eq_true rfl) rfl ?_
      refine ev_goto (pc := 94) (tgt := 61) dM_prepare_94 (by decide) ?_
      exact ih _ _ hs
set_option maxHeartbeats 4000000 in
set_option maxRecDepth 100000 in
theorem cM_prepare_L51 {k103 : Hp → RO} {post : Int32 → Hp → Prop} (hk103 : ∀  (h : Hp), Sat post (k103 h) → Ev mM_prepare 3 103 [(0, .inr 28)] [] h post) : ∀ (n : Nat) (x1_51 : Int32) (h51 : Hp), Sat post (fM_prepare_L51 k103 n x1_51 h51) → Ev mM_prepare 3 51 [(0, .inr 28), (1, .inl x1_51)] [] h51 post := by
  intro n
  induction n with
  | zero =>
    intro x1_51 h51 hs
    exact False.elim hs
  | succ n ih =>
    intro x1_51 h51 hs
    refine ev_iload_n (pc := 51) dM_prepare_51 1 rfl rfl ?_
    refine ev_aload_n (pc := 52) dM_prepare_52 0 rfl rfl ?_
    refine ev_getI (pc := 53) dM_prepare_53 lM_143 rfl rfl ?_
    refine ev_icmp_ge (pc := 56) (tgt := 103) dM_prepare_56 (by decide) hs (fun hs => ?_) (fun hs => ?_)
    · refine ev_sub [(0, .inr 28)] [0] rfl ?_
      exact hk103 _ hs
    · refine ev_iconst (pc := 59) (v := 0) dM_prepare_59 (by decide) ?_
      refine ev_istore_n (pc := 60) (L' := [(0, .inr 28), (1, .inl x1_51), (2, .inl 0)]) dM_prepare_60 rfl rfl (Nat.le_of_ble_eq_true rfl) rfl ?_
      refine cM_prepare_L61 (fun h97 hs => ?_) _ _ _ hs
      refine ev_iinc (pc := 97) (L' := [(0, .inr 28), (1, .inl (x1_51 + 1))]) (v := (x1_51 + 1)) dM_prepare_97 1 rfl (congrArg (HAdd.hAdd _) (by decide)) rfl (Nat.le_of_ble_eq_true rfl) rfl ?_
      refine ev_goto (pc := 100) (tgt := 51) dM_prepare_100 (by decide) ?_
      exact ih _ _ hs
set_option maxHeartbeats 4000000 in
set_option maxRecDepth 100000 in
theorem cM_prepare_L133 {k234 : Hp → RO} {x1 : Int32} {x2 : Int32} {x3 : Int32} {post : Int32 → Hp → Prop} (hk234 : ∀  (h : Hp), Sat post (k234 h) → Ev mM_prepare 3 234 [(0, .inr 28), (1, .inl x1), (2, .inl x2), (3, .inl x3)] [] h post) : ∀ (n : Nat) (x4_133 : Int32) (h133 : Hp), Sat post (fM_prepare_L133 k234 x1 x2 x3 n x4_133 h133) → Ev mM_prepare 3 133 [(0, .inr 28), (1, .inl x1), (2, .inl x2), (3, .inl x3), (4, .inl x4_133)] [] h133 post := by
  intro n
  induction n with
  | zero =>
    intro x4_133 h133 hs
    exact False.elim hs
  | succ n ih =>
    intro x4_133 h133 hs
    refine ev_iload (pc := 133) dM_prepare_133 4 rfl ?_
    refine ev_aload_n (pc := 135) dM_prepare_135 0 rfl rfl ?_
    refine ev_callV (pc := 136) (As := []) (S := [.inl x4_133]) (d2 := 0) dM_prepare_136 vM_106 zM_places rfl rfl rfl rfl (Nat.le_of_ble_eq_true rfl) (Nat.le_of_ble_eq_true rfl) rfl rfl (fun p1 hz => cM_places hz) hs (fun r136 h136 hs => ?_)
    refine ev_icmp_ge (pc := 139) (tgt := 234) dM_prepare_139 (by decide) hs (fun hs => ?_) (fun hs => ?_)
    · refine ev_sub [(0, .inr 28), (1, .inl x1), (2, .inl x2), (3, .inl x3)] [0, 1, 2, 3] rfl ?_
      exact hk234 _ hs
    · refine ev_aload_n (pc := 142) dM_prepare_142 0 rfl rfl ?_
      refine ev_getR (pc := 143) dM_prepare_143 lM_78 rfl rfl ?_
      refine ev_bipush (pc := 146) (v := 9) dM_prepare_146 (by decide) ?_
      refine ev_iload_n (pc := 148) dM_prepare_148 1 rfl rfl ?_
      refine ev_imul (pc := 149) dM_prepare_149 ?_
      refine ev_iload_n (pc := 150) dM_prepare_150 3 rfl rfl ?_
      refine ev_iadd (pc := 151) dM_prepare_151 ?_
      refine ev_zald (pc := 152) dM_prepare_152 hs (fun r152 hs => ?_)
      refine ev_jn (fun (j : Int32 → Hp → RO) => ∀ (s176 : Int32) (h176 : Hp), Sat post (j s176 h176) → Ev mM_prepare 3 176 [(0, .inr 28), (1, .inl x1), (2, .inl x2), (3, .inl x3), (4, .inl x4_133)] [.inl s176] h176 post) hs (fun s176 h176 hs => ?_) (fun j176 hj176 hs => ?_)
      · refine ev_istore (pc := 176) (L' := [(0, .inr 28), (1, .inl x1), (2, .inl x2), (3, .inl x3), (4, .inl x4_133), (5, .inl s176)]) dM_prepare_176 rfl (Nat.le_of_ble_eq_true rfl) rfl ?_
        refine ev_aload_n (pc := 178) dM_prepare_178 0 rfl rfl ?_
        refine ev_getR (pc := 179) dM_prepare_179 lM_81 rfl rfl ?_
        refine ev_bipush (pc := 182) (v := 45) dM_prepare_182 (by decide) ?_
        refine ev_bipush (pc := 184) (v := 9) dM_prepare_184 (by decide) ?_
        refine ev_iload_n (pc := 186) dM_prepare_186 1 rfl rfl ?_
        refine ev_imul (pc := 187) dM_prepare_187 ?_
        refine ev_iload_n (pc := 188) dM_prepare_188 3 rfl rfl ?_
        refine ev_iadd (pc := 189) dM_prepare_189 ?_
        refine ev_imul (pc := 190) dM_prepare_190 ?_
        refine ev_bipush (pc := 191) (v := 9) dM_prepare_191 (by decide) ?_
        refine ev_iload_n (pc := 193) dM_prepare_193 2 rfl rfl ?_
        refine ev_imul (pc := 194) dM_prepare_194 ?_
        refine ev_iadd (pc := 195) dM_prepare_195 ?_
        refine ev_iload (pc := 196) dM_prepare_196 4 rfl ?_
        refine ev_iadd (pc := 198) dM_prepare_198 ?_
        refine ev_iload (pc := 199) dM_prepare_199 5 rfl ?_
        refine ev_jn (fun (j : Int32 → Hp → RO) => ∀ (s227 : Int32) (h227 : Hp), Sat post (j s227 h227) → Ev mM_prepare 3 227 [(0, .inr 28), (1, .inl x1), (2, .inl x2), (3, .inl x3), (4, .inl x4_133)] [.inl s227, .inl (((45 * ((9 * x1) + x3)) + (9 * x2)) + x4_133), .inr 50] h227 post) hs (fun s227 h227 hs => ?_) (fun j227 hj227 hs => ?_)
        · refine ev_iast (pc := 227) dM_prepare_227 hs (fun h227 hs => ?_)
          refine ev_iinc (pc := 228) (L' := [(0, .inr 28), (1, .inl x1), (2, .inl x2), (3, .inl x3), (4, .inl (x4_133 + 1))]) (v := (x4_133 + 1)) dM_prepare_228 4 rfl (congrArg (HAdd.hAdd _) (by decide)) rfl (Nat.le_of_ble_eq_true rfl) rfl ?_
          refine ev_goto (pc := 231) (tgt := 133) dM_prepare_231 (by decide) ?_
          exact ih _ _ hs
        refine ev_if_eq (pc := 201) (tgt := 226) dM_prepare_201 (by decide) hs (fun hs => ?_) (fun hs => ?_)
        · refine ev_iconst (pc := 226) (v := 0) dM_prepare_226 (by decide) ?_
          refine ev_sub [(0, .inr 28), (1, .inl x1), (2, .inl x2), (3, .inl x3), (4, .inl x4_133)] [0, 1, 2, 3, 4] rfl ?_
          exact hj227 _ _ hs
        · refine ev_aload_n (pc := 204) dM_prepare_204 0 rfl rfl ?_
          refine ev_aload_n (pc := 205) dM_prepare_205 0 rfl rfl ?_
          refine ev_getR (pc := 206) dM_prepare_206 lM_75 rfl rfl ?_
          refine ev_iload_n (pc := 209) dM_prepare_209 1 rfl rfl ?_
          refine ev_iald (pc := 210) dM_prepare_210 hs (fun r210 hs => ?_)
          refine ev_iload_n (pc := 211) dM_prepare_211 3 rfl rfl ?_
          refine ev_aload_n (pc := 212) dM_prepare_212 0 rfl rfl ?_
          refine ev_getR (pc := 213) dM_prepare_213 lM_75 rfl rfl ?_
          refine ev_iload_n (pc := 216) dM_prepare_216 2 rfl rfl ?_
          refine ev_iald (pc := 217) dM_prepare_217 hs (fun r217 hs => ?_)
          refine ev_iload (pc := 218) dM_prepare_218 4 rfl ?_
          refine ev_callV (pc := 220) (As := [.inl r210, .inl x3, .inl r217, .inl x4_133]) (S := [.inl (((45 * ((9 * x1) + x3)) + (9 * x2)) + x4_133), .inr 50]) (d2 := 2) dM_prepare_220 vM_150 zM_quarrelOf rfl rfl rfl rfl (Nat.le_of_ble_eq_true rfl) (Nat.le_of_ble_eq_true rfl) rfl rfl (fun p1 hz => cM_quarrelOf hz) hs (fun r220 h220 hs => ?_)
          refine ev_goto (pc := 223) (tgt := 227) dM_prepare_223 (by decide) ?_
          refine ev_sub [(0, .inr 28), (1, .inl x1), (2, .inl x2), (3, .inl x3), (4, .inl x4_133)] [0, 1, 2, 3, 4] rfl ?_
          exact hj227 _ _ hs
      refine ev_jn (fun (j : Hp → RO) => ∀  (h175 : Hp), Sat post (j h175) → Ev mM_prepare 3 175 [(0, .inr 28), (1, .inl x1), (2, .inl x2), (3, .inl x3), (4, .inl x4_133)] [] h175 post) hs (fun h175 hs => ?_) (fun j175 hj175 hs => ?_)
      · refine ev_iconst (pc := 175) (v := 0) dM_prepare_175 (by decide) ?_
        exact hj176 _ _ hs
      refine ev_if_eq (pc := 153) (tgt := 175) dM_prepare_153 (by decide) hs (fun hs => ?_) (fun hs => ?_)
      · exact hj175 _ hs
      · refine ev_aload_n (pc := 156) dM_prepare_156 0 rfl rfl ?_
        refine ev_getR (pc := 157) dM_prepare_157 lM_78 rfl rfl ?_
        refine ev_bipush (pc := 160) (v := 9) dM_prepare_160 (by decide) ?_
        refine ev_iload_n (pc := 162) dM_prepare_162 2 rfl rfl ?_
        refine ev_imul (pc := 163) dM_prepare_163 ?_
        refine ev_iload (pc := 164) dM_prepare_164 4 rfl ?_
        refine ev_iadd (pc := 166) dM_prepare_166 ?_
        refine ev_zald (pc := 167) dM_prepare_167 hs (fun r167 hs => ?_)
        refine ev_if_eq (pc := 168) (tgt := 175) dM_prepare_168 (by decide) hs (fun hs => ?_) (fun hs => ?_)
        · exact hj175 _ hs
        · refine ev_iconst (pc := 171) (v := 1) dM_prepare_171 (by decide) ?_
          refine ev_goto (pc := 172) (tgt := 176) dM_prepare_172 (by decide) ?_
          exact hj176 _ _ hs
set_option maxHeartbeats 4000000 in
set_option maxRecDepth 100000 in
theorem cM_prepare_L122 {k240 : Hp → RO} {x1 : Int32} {x2 : Int32} {post : Int32 → Hp → Prop} (hk240 : ∀  (h : Hp), Sat post (k240 h) → Ev mM_prepare 3 240 [(0, .inr 28), (1, .inl x1), (2, .inl x2)] [] h post) : ∀ (n : Nat) (x3_122 : Int32) (h122 : Hp), Sat post (fM_prepare_L122 k240 x1 x2 n x3_122 h122) → Ev mM_prepare 3 122 [(0, .inr 28), (1, .inl x1), (2, .inl x2), (3, .inl x3_122)] [] h122 post := by
  intro n
  induction n with
  | zero =>
    intro x3_122 h122 hs
    exact False.elim hs
  | succ n ih =>
    intro x3_122 h122 hs
    refine ev_iload_n (pc := 122) dM_prepare_122 3 rfl rfl ?_
    refine ev_aload_n (pc := 123) dM_prepare_123 0 rfl rfl ?_
    refine ev_callV (pc := 124) (As := []) (S := [.inl x3_122]) (d2 := 0) dM_prepare_124 vM_106 zM_places rfl rfl rfl rfl (Nat.le_of_ble_eq_true rfl) (Nat.le_of_ble_eq_true rfl) rfl rfl (fun p1 hz => cM_places hz) hs (fun r124 h124 hs => ?_)
    refine ev_icmp_ge (pc := 127) (tgt := 240) dM_prepare_127 (by decide) hs (fun hs => ?_) (fun hs => ?_)
    · refine ev_sub [(0, .inr 28), (1, .inl x1), (2, .inl x2)] [0, 1, 2] rfl ?_
      exact hk240 _ hs
    · refine ev_iconst (pc := 130) (v := 0) dM_prepare_130 (by decide) ?_
      refine ev_istore (pc := 131) (L' := [(0, .inr 28), (1, .inl x1), (2, .inl x2), (3, .inl x3_122), (4, .inl 0)]) dM_prepare_131 rfl (Nat.le_of_ble_eq_true rfl) rfl ?_
      refine cM_prepare_L133 (fun h234 hs => ?_) _ _ _ hs
      refine ev_iinc (pc := 234) (L' := [(0, .inr 28), (1, .inl x1), (2, .inl x2), (3, .inl (x3_122 + 1))]) (v := (x3_122 + 1)) dM_prepare_234 3 rfl (congrArg (HAdd.hAdd _) (by decide)) rfl (Nat.le_of_ble_eq_true rfl) rfl ?_
      refine ev_goto (pc := 237) (tgt := 122) dM_prepare_237 (by decide) ?_
      exact ih _ _ hs
set_option maxHeartbeats 4000000 in
set_option maxRecDepth 100000 in
theorem cM_prepare_L115 {k246 : Hp → RO} {x1 : Int32} {post : Int32 → Hp → Prop} (hk246 : ∀  (h : Hp), Sat post (k246 h) → Ev mM_prepare 3 246 [(0, .inr 28), (1, .inl x1)] [] h post) : ∀ (n : Nat) (x2_115 : Int32) (h115 : Hp), Sat post (fM_prepare_L115 k246 x1 n x2_115 h115) → Ev mM_prepare 3 115 [(0, .inr 28), (1, .inl x1), (2, .inl x2_115)] [] h115 post := by
  intro n
  induction n with
  | zero =>
    intro x2_115 h115 hs
    exact False.elim hs
  | succ n ih =>
    intro x2_115 h115 hs
    refine ev_iload_n (pc := 115) dM_prepare_115 2 rfl rfl ?_
    refine ev_iload_n (pc := 116) dM_prepare_116 1 rfl rfl ?_
    refine ev_icmp_ge (pc := 117) (tgt := 246) dM_prepare_117 (by decide) hs (fun hs => ?_) (fun hs => ?_)
    · refine ev_sub [(0, .inr 28), (1, .inl x1)] [0, 1] rfl ?_
      exact hk246 _ hs
    · refine ev_iconst (pc := 120) (v := 0) dM_prepare_120 (by decide) ?_
      refine ev_istore_n (pc := 121) (L' := [(0, .inr 28), (1, .inl x1), (2, .inl x2_115), (3, .inl 0)]) dM_prepare_121 rfl rfl (Nat.le_of_ble_eq_true rfl) rfl ?_
      refine cM_prepare_L122 (fun h240 hs => ?_) _ _ _ hs
      refine ev_iinc (pc := 240) (L' := [(0, .inr 28), (1, .inl x1), (2, .inl (x2_115 + 1))]) (v := (x2_115 + 1)) dM_prepare_240 2 rfl (congrArg (HAdd.hAdd _) (by decide)) rfl (Nat.le_of_ble_eq_true rfl) rfl ?_
      refine ev_goto (pc := 243) (tgt := 115) dM_prepare_243 (by decide) ?_
      exact ih _ _ hs
set_option maxHeartbeats 4000000 in
set_option maxRecDepth 100000 in
theorem cM_prepare_L105  {post : Int32 → Hp → Prop}  : ∀ (n : Nat) (x1_105 : Int32) (h105 : Hp), Sat post (fM_prepare_L105 n x1_105 h105) → Ev mM_prepare 3 105 [(0, .inr 28), (1, .inl x1_105)] [] h105 post := by
  intro n
  induction n with
  | zero =>
    intro x1_105 h105 hs
    exact False.elim hs
  | succ n ih =>
    intro x1_105 h105 hs
    refine ev_iload_n (pc := 105) dM_prepare_105 1 rfl rfl ?_
    refine ev_aload_n (pc := 106) dM_prepare_106 0 rfl rfl ?_
    refine ev_getI (pc := 107) dM_prepare_107 lM_143 rfl rfl ?_
    refine ev_icmp_ge (pc := 110) (tgt := 252) dM_prepare_110 (by decide) hs (fun hs => ?_) (fun hs => ?_)
    · exact ev_vret rfl dM_prepare_252 hs
    · refine ev_iconst (pc := 113) (v := 0) dM_prepare_113 (by decide) ?_
      refine ev_istore_n (pc := 114) (L' := [(0, .inr 28), (1, .inl x1_105), (2, .inl 0)]) dM_prepare_114 rfl rfl (Nat.le_of_ble_eq_true rfl) rfl ?_
      refine cM_prepare_L115 (fun h246 hs => ?_) _ _ _ hs
      refine ev_iinc (pc := 246) (L' := [(0, .inr 28), (1, .inl (x1_105 + 1))]) (v := (x1_105 + 1)) dM_prepare_246 1 rfl (congrArg (HAdd.hAdd _) (by decide)) rfl (Nat.le_of_ble_eq_true rfl) rfl ?_
      refine ev_goto (pc := 249) (tgt := 105) dM_prepare_249 (by decide) ?_
      exact ih _ _ hs
set_option maxHeartbeats 4000000 in
set_option maxRecDepth 100000 in
theorem cM_prepare {h0 : Hp}  {post : Int32 → Hp → Prop} (hs : Sat post (fM_prepare h0 )) : Mt mM_prepare 3 [.inr 28] h0 post := by
  refine mt_body (L := [(0, .inr 28)]) (by decide +kernel) (Nat.le_of_ble_eq_true rfl) rfl ?_
  refine ev_aload_n (pc := 0) dM_prepare_0 0 rfl rfl ?_
  refine ev_iconst (pc := 1) (v := 0) dM_prepare_1 (by decide) ?_
  refine ev_putI (pc := 2) dM_prepare_2 lM_143 w5_25 rfl rfl hs (fun h2 hs => ?_)
  refine ev_iconst (pc := 5) (v := 0) dM_prepare_5 (by decide) ?_
  refine ev_istore_n (pc := 6) (L' := [(0, .inr 28), (1, .inl 0)]) dM_prepare_6 rfl rfl (Nat.le_of_ble_eq_true rfl) rfl ?_
  refine cM_prepare_L7 (fun h49 hs => ?_) _ _ _ hs
  refine ev_iconst (pc := 49) (v := 0) dM_prepare_49 (by decide) ?_
  refine ev_istore_n (pc := 50) (L' := [(0, .inr 28), (1, .inl 0)]) dM_prepare_50 rfl rfl (Nat.le_of_ble_eq_true rfl) rfl ?_
  refine cM_prepare_L51 (fun h103 hs => ?_) _ _ _ hs
  refine ev_iconst (pc := 103) (v := 0) dM_prepare_103 (by decide) ?_
  refine ev_istore_n (pc := 104) (L' := [(0, .inr 28), (1, .inl 0)]) dM_prepare_104 rfl rfl (Nat.le_of_ble_eq_true rfl) rfl ?_
  exact cM_prepare_L105  _ _ _ hs
set_option maxHeartbeats 4000000 in
set_option maxRecDepth 100000 in
theorem cM_keepLaying_L62 {k119 : Hp → RO} {x2 : Int32} {x3 : Int32} {post : Int32 → Hp → Prop} (hk119 : ∀  (h : Hp), Sat post (k119 h) → Ev mM_keepLaying 2 119 [(0, .inr 28), (2, .inl x2), (3, .inl x3)] [] h post) : ∀ (n : Nat) (x4_62 : Int32) (h62 : Hp), Sat post (fM_keepLaying_L62 k119 x2 x3 n x4_62 h62) → Ev mM_keepLaying 2 62 [(0, .inr 28), (2, .inl x2), (3, .inl x3), (4, .inl x4_62)] [] h62 post := by
  intro n
  induction n with
  | zero =>
    intro x4_62 h62 hs
    exact False.elim hs
  | succ n ih =>
    intro x4_62 h62 hs
    refine ev_iload (pc := 62) dM_keepLaying_62 3 rfl ?_
    refine ev_aload_n (pc := 64) dM_keepLaying_64 0 rfl rfl ?_
    refine ev_getR (pc := 65) dM_keepLaying_65 lM_26 rfl rfl ?_
    refine ev_aload_n (pc := 68) dM_keepLaying_68 0 rfl rfl ?_
    refine ev_getR (pc := 69) dM_keepLaying_69 lM_75 rfl rfl ?_
    refine ev_iload_n (pc := 72) dM_keepLaying_72 2 rfl rfl ?_
    refine ev_iald (pc := 73) dM_keepLaying_73 hs (fun r73 hs => ?_)
    refine ev_iald (pc := 74) dM_keepLaying_74 hs (fun r74 hs => ?_)
    refine ev_aload_n (pc := 75) dM_keepLaying_75 0 rfl rfl ?_
    refine ev_aload_n (pc := 76) dM_keepLaying_76 0 rfl rfl ?_
    refine ev_getR (pc := 77) dM_keepLaying_77 lM_75 rfl rfl ?_
    refine ev_iload_n (pc := 80) dM_keepLaying_80 2 rfl rfl ?_
    refine ev_iald (pc := 81) dM_keepLaying_81 hs (fun r81 hs => ?_)
    refine ev_callV (pc := 82) (As := [.inl r81]) (S := [.inl r74, .inl x4_62]) (d2 := 0) dM_keepLaying_82 vM_130 zM_sizeOf rfl rfl rfl rfl (Nat.le_of_ble_eq_true rfl) (Nat.le_of_ble_eq_true rfl) rfl rfl (fun p1 hz => cM_sizeOf hz) hs (fun r82 h82 hs => ?_)
    refine ev_iadd (pc := 85) dM_keepLaying_85 ?_
    refine ev_icmp_ge (pc := 86) (tgt := 119) dM_keepLaying_86 (by decide) hs (fun hs => ?_) (fun hs => ?_)
    · refine ev_sub [(0, .inr 28), (2, .inl x2), (3, .inl x3)] [0, 1, 2] rfl ?_
      exact hk119 _ hs
    · refine ev_aload_n (pc := 89) dM_keepLaying_89 0 rfl rfl ?_
      refine ev_getR (pc := 90) dM_keepLaying_90 lM_87 rfl rfl ?_
      refine ev_iload (pc := 93) dM_keepLaying_93 3 rfl ?_
      refine ev_dup2 (pc := 95) dM_keepLaying_95 ?_
      refine ev_iald (pc := 96) dM_keepLaying_96 hs (fun r96 hs => ?_)
      refine ev_iconst (pc := 97) (v := 1) dM_keepLaying_97 (by decide) ?_
      refine ev_aload_n (pc := 98) dM_keepLaying_98 0 rfl rfl ?_
      refine ev_iload (pc := 99) dM_keepLaying_99 3 rfl ?_
      refine ev_aload_n (pc := 101) dM_keepLaying_101 0 rfl rfl ?_
      refine ev_getR (pc := 102) dM_keepLaying_102 lM_84 rfl rfl ?_
      refine ev_iload_n (pc := 105) dM_keepLaying_105 2 rfl rfl ?_
      refine ev_iald (pc := 106) dM_keepLaying_106 hs (fun r106 hs => ?_)
      refine ev_callV (pc := 107) (As := [.inl x4_62, .inl r106]) (S := [.inl 1, .inl r96, .inl x4_62, .inr 52]) (d2 := 1) dM_keepLaying_107 vM_139 zM_spot rfl rfl rfl rfl (Nat.le_of_ble_eq_true rfl) (Nat.le_of_ble_eq_true rfl) rfl rfl (fun p1 hz => cM_spot hz) hs (fun r107 h107 hs => ?_)
      refine ev_ishl (pc := 110) dM_keepLaying_110 ?_
      refine ev_ior (pc := 111) dM_keepLaying_111 ?_
      refine ev_iast (pc := 112) dM_keepLaying_112 hs (fun h112 hs => ?_)
      refine ev_iinc (pc := 113) (L' := [(0, .inr 28), (2, .inl x2), (3, .inl x3), (4, .inl (x4_62 + 1))]) (v := (x4_62 + 1)) dM_keepLaying_113 3 rfl (congrArg (HAdd.hAdd _) (by decide)) rfl (Nat.le_of_ble_eq_true rfl) rfl ?_
      refine ev_goto (pc := 116) (tgt := 62) dM_keepLaying_116 (by decide) ?_
      exact ih _ _ hs
set_option maxHeartbeats 4000000 in
set_option maxRecDepth 100000 in
theorem cM_keepLaying_L41 {k154 : Hp → RO} {x2 : Int32} {post : Int32 → Hp → Prop} (hk154 : ∀  (h : Hp), Sat post (k154 h) → Ev mM_keepLaying 2 154 [(0, .inr 28)] [] h post) : ∀ (n : Nat) (x3_41 : Int32) (h41 : Hp), Sat post (fM_keepLaying_L41 k154 x2 n x3_41 h41) → Ev mM_keepLaying 2 41 [(0, .inr 28), (2, .inl x2), (3, .inl x3_41)] [] h41 post := by
  intro n
  induction n with
  | zero =>
    intro x3_41 h41 hs
    exact False.elim hs
  | succ n ih =>
    intro x3_41 h41 hs
    refine ev_iload_n (pc := 41) dM_keepLaying_41 2 rfl rfl ?_
    refine ev_aload_n (pc := 42) dM_keepLaying_42 0 rfl rfl ?_
    refine ev_getI (pc := 43) dM_keepLaying_43 lM_143 rfl rfl ?_
    refine ev_icmp_ge (pc := 46) (tgt := 154) dM_keepLaying_46 (by decide) hs (fun hs => ?_) (fun hs => ?_)
    · refine ev_sub [(0, .inr 28)] [0] rfl ?_
      exact hk154 _ hs
    · refine ev_aload_n (pc := 49) dM_keepLaying_49 0 rfl rfl ?_
      refine ev_getR (pc := 50) dM_keepLaying_50 lM_26 rfl rfl ?_
      refine ev_aload_n (pc := 53) dM_keepLaying_53 0 rfl rfl ?_
      refine ev_getR (pc := 54) dM_keepLaying_54 lM_75 rfl rfl ?_
      refine ev_iload_n (pc := 57) dM_keepLaying_57 2 rfl rfl ?_
      refine ev_iald (pc := 58) dM_keepLaying_58 hs (fun r58 hs => ?_)
      refine ev_iald (pc := 59) dM_keepLaying_59 hs (fun r59 hs => ?_)
      refine ev_istore (pc := 60) (L' := [(0, .inr 28), (2, .inl x2), (3, .inl x3_41), (4, .inl r59)]) dM_keepLaying_60 rfl (Nat.le_of_ble_eq_true rfl) rfl ?_
      refine cM_keepLaying_L62 (fun h119 hs => ?_) _ _ _ hs
      refine ev_aload_n (pc := 119) dM_keepLaying_119 0 rfl rfl ?_
      refine ev_getR (pc := 120) dM_keepLaying_120 lM_90 rfl rfl ?_
      refine ev_iload_n (pc := 123) dM_keepLaying_123 2 rfl rfl ?_
      refine ev_aload_n (pc := 124) dM_keepLaying_124 0 rfl rfl ?_
      refine ev_getI (pc := 125) dM_keepLaying_125 lM_157 rfl rfl ?_
      refine ev_iload_n (pc := 128) dM_keepLaying_128 1 rfl rfl ?_
      refine ev_jn (fun (j : Int32 → Hp → RO) => ∀ (s147 : Int32) (h147 : Hp), Sat post (j s147 h147) → Ev mM_keepLaying 2 147 [(0, .inr 28), (2, .inl x2), (3, .inl x3_41)] [.inl s147, .inl x3_41, .inr 53] h147 post) hs (fun s147 h147 hs => ?_) (fun j147 hj147 hs => ?_)
      · refine ev_iast (pc := 147) dM_keepLaying_147 hs (fun h147 hs => ?_)
        refine ev_iinc (pc := 148) (L' := [(0, .inr 28), (2, .inl x2), (3, .inl (x3_41 + 1))]) (v := (x3_41 + 1)) dM_keepLaying_148 2 rfl (congrArg (HAdd.hAdd _) (by decide)) rfl (Nat.le_of_ble_eq_true rfl) rfl ?_
        refine ev_goto (pc := 151) (tgt := 41) dM_keepLaying_151 (by decide) ?_
        exact ih _ _ hs
      refine ev_icmp_ne (pc := 129) (tgt := 141) dM_keepLaying_129 (by decide) hs (fun hs => ?_) (fun hs => ?_)
      · refine ev_aload_n (pc := 141) dM_keepLaying_141 0 rfl rfl ?_
        refine ev_getR (pc := 142) dM_keepLaying_142 lM_90 rfl rfl ?_
        refine ev_iload_n (pc := 145) dM_keepLaying_145 2 rfl rfl ?_
        refine ev_iald (pc := 146) dM_keepLaying_146 hs (fun r146 hs => ?_)
        exact hj147 _ _ hs
      · refine ev_aload_n (pc := 132) dM_keepLaying_132 0 rfl rfl ?_
        refine ev_getR (pc := 133) dM_keepLaying_133 lM_84 rfl rfl ?_
        refine ev_iload_n (pc := 136) dM_keepLaying_136 2 rfl rfl ?_
        refine ev_iald (pc := 137) dM_keepLaying_137 hs (fun r137 hs => ?_)
        refine ev_goto (pc := 138) (tgt := 147) dM_keepLaying_138 (by decide) ?_
        exact hj147 _ _ hs
set_option maxHeartbeats 4000000 in
set_option maxRecDepth 100000 in
theorem cM_keepLaying_L20 {k39 : Hp → RO} {x2 : Int32} {post : Int32 → Hp → Prop} (hk39 : ∀  (h : Hp), Sat post (k39 h) → Ev mM_keepLaying 2 39 [(0, .inr 28), (2, .inl x2)] [] h post) : ∀ (n : Nat) (x3_20 : Int32) (h20 : Hp), Sat post (fM_keepLaying_L20 k39 x2 n x3_20 h20) → Ev mM_keepLaying 2 20 [(0, .inr 28), (2, .inl x2), (3, .inl x3_20)] [] h20 post := by
  intro n
  induction n with
  | zero =>
    intro x3_20 h20 hs
    exact False.elim hs
  | succ n ih =>
    intro x3_20 h20 hs
    refine ev_iload_n (pc := 20) dM_keepLaying_20 2 rfl rfl ?_
    refine ev_bipush (pc := 21) (v := 30) dM_keepLaying_21 (by decide) ?_
    refine ev_icmp_ge (pc := 23) (tgt := 39) dM_keepLaying_23 (by decide) hs (fun hs => ?_) (fun hs => ?_)
    · refine ev_sub [(0, .inr 28), (2, .inl x2)] [0, 1] rfl ?_
      exact hk39 _ hs
    · refine ev_aload_n (pc := 26) dM_keepLaying_26 0 rfl rfl ?_
      refine ev_getR (pc := 27) dM_keepLaying_27 lM_87 rfl rfl ?_
      refine ev_iload_n (pc := 30) dM_keepLaying_30 2 rfl rfl ?_
      refine ev_iconst (pc := 31) (v := 0) dM_keepLaying_31 (by decide) ?_
      refine ev_iast (pc := 32) dM_keepLaying_32 hs (fun h32 hs => ?_)
      refine ev_iinc (pc := 33) (L' := [(0, .inr 28), (2, .inl x2), (3, .inl (x3_20 + 1))]) (v := (x3_20 + 1)) dM_keepLaying_33 2 rfl (congrArg (HAdd.hAdd _) (by decide)) rfl (Nat.le_of_ble_eq_true rfl) rfl ?_
      refine ev_goto (pc := 36) (tgt := 20) dM_keepLaying_36 (by decide) ?_
      exact ih _ _ hs
set_option maxHeartbeats 4000000 in
set_option maxRecDepth 100000 in
theorem cM_keepLaying {h0 : Hp} {x1 : Int32} {x2 : Int32} {post : Int32 → Hp → Prop} (hs : Sat post (fM_keepLaying h0 x1 x2)) : Mt mM_keepLaying 2 [.inr 28, .inl x1, .inl x2] h0 post := by
  refine mt_body (L := [(0, .inr 28), (1, .inl x1), (2, .inl x2)]) (by decide +kernel) (Nat.le_of_ble_eq_true rfl) rfl ?_
  refine ev_iload_n (pc := 0) dM_keepLaying_0 1 rfl rfl ?_
  refine ev_aload_n (pc := 1) dM_keepLaying_1 0 rfl rfl ?_
  refine ev_getI (pc := 2) dM_keepLaying_2 lM_154 rfl rfl ?_
  refine ev_jn (fun (j : Hp → RO) => ∀  (h39 : Hp), Sat post (j h39) → Ev mM_keepLaying 2 39 [(0, .inr 28), (2, .inl x2)] [] h39 post) hs (fun h39 hs => ?_) (fun j39 hj39 hs => ?_)
  · refine ev_iconst (pc := 39) (v := 0) dM_keepLaying_39 (by decide) ?_
    refine ev_istore_n (pc := 40) (L' := [(0, .inr 28), (2, .inl x2), (3, .inl 0)]) dM_keepLaying_40 rfl rfl (Nat.le_of_ble_eq_true rfl) rfl ?_
    refine cM_keepLaying_L41 (fun h154 hs => ?_) _ _ _ hs
    refine ev_aload_n (pc := 154) dM_keepLaying_154 0 rfl rfl ?_
    refine ev_dup (pc := 155) dM_keepLaying_155 ?_
    refine ev_getI (pc := 156) dM_keepLaying_156 lM_157 rfl rfl ?_
    refine ev_iconst (pc := 159) (v := 1) dM_keepLaying_159 (by decide) ?_
    refine ev_iadd (pc := 160) dM_keepLaying_160 ?_
    refine ev_putI (pc := 161) dM_keepLaying_161 lM_157 w5_31 rfl rfl hs (fun h161 hs => ?_)
    exact ev_vret rfl dM_keepLaying_164 hs
  refine ev_icmp_ge (pc := 5) (tgt := 39) dM_keepLaying_5 (by decide) hs (fun hs => ?_) (fun hs => ?_)
  · refine ev_sub [(0, .inr 28), (2, .inl x2)] [0, 2] rfl ?_
    exact hj39 _ hs
  · refine ev_aload_n (pc := 8) dM_keepLaying_8 0 rfl rfl ?_
    refine ev_iload_n (pc := 9) dM_keepLaying_9 1 rfl rfl ?_
    refine ev_putI (pc := 10) dM_keepLaying_10 lM_154 w5_30 rfl rfl hs (fun h10 hs => ?_)
    refine ev_aload_n (pc := 13) dM_keepLaying_13 0 rfl rfl ?_
    refine ev_iconst (pc := 14) (v := 0) dM_keepLaying_14 (by decide) ?_
    refine ev_putI (pc := 15) dM_keepLaying_15 lM_157 w5_31 rfl rfl hs (fun h15 hs => ?_)
    refine ev_iconst (pc := 18) (v := 0) dM_keepLaying_18 (by decide) ?_
    refine ev_istore_n (pc := 19) (L' := [(0, .inr 28), (1, .inl x1), (2, .inl x2), (3, .inl 0)]) dM_keepLaying_19 rfl rfl (Nat.le_of_ble_eq_true rfl) rfl ?_
    refine ev_sub [(0, .inr 28), (2, .inl x2), (3, .inl 0)] [0, 2, 3] rfl ?_
    refine cM_keepLaying_L20 (fun h39 hs => ?_) _ _ _ hs
    exact hj39 _ hs
set_option maxHeartbeats 4000000 in
set_option maxRecDepth 100000 in
theorem cM_find_L17 {k36 : Hp → RO} {x1 : Int32} {post : Int32 → Hp → Prop} (hk36 : ∀  (h : Hp), Sat post (k36 h) → Ev mM_find 4 36 [(0, .inr 28), (1, .inl x1)] [] h post) : ∀ (n : Nat) (x2_17 : Int32) (h17 : Hp), Sat post (fM_find_L17 k36 x1 n x2_17 h17) → Ev mM_find 4 17 [(0, .inr 28), (1, .inl x1), (2, .inl x2_17)] [] h17 post := by
  intro n
  induction n with
  | zero =>
    intro x2_17 h17 hs
    exact False.elim hs
  | succ n ih =>
    intro x2_17 h17 hs
    refine ev_iload_n (pc := 17) dM_find_17 2 rfl rfl ?_
    refine ev_bipush (pc := 18) (v := 30) dM_find_18 (by decide) ?_
    refine ev_icmp_ge (pc := 20) (tgt := 36) dM_find_20 (by decide) hs (fun hs => ?_) (fun hs => ?_)
    · refine ev_sub [(0, .inr 28), (1, .inl x1)] [0, 1] rfl ?_
      exact hk36 _ hs
    · refine ev_aload_n (pc := 23) dM_find_23 0 rfl rfl ?_
      refine ev_getR (pc := 24) dM_find_24 lM_87 rfl rfl ?_
      refine ev_iload_n (pc := 27) dM_find_27 2 rfl rfl ?_
      refine ev_iconst (pc := 28) (v := 0) dM_find_28 (by decide) ?_
      refine ev_iast (pc := 29) dM_find_29 hs (fun h29 hs => ?_)
      refine ev_iinc (pc := 30) (L' := [(0, .inr 28), (1, .inl x1), (2, .inl (x2_17 + 1))]) (v := (x2_17 + 1)) dM_find_30 2 rfl (congrArg (HAdd.hAdd _) (by decide)) rfl (Nat.le_of_ble_eq_true rfl) rfl ?_
      refine ev_goto (pc := 33) (tgt := 17) dM_find_33 (by decide) ?_
      exact ih _ _ hs
set_option maxHeartbeats 4000000 in
set_option maxRecDepth 100000 in
theorem cM_find_L38 {k56 : Hp → RO} {x1 : Int32} {post : Int32 → Hp → Prop} (hk56 : ∀  (h : Hp), Sat post (k56 h) → Ev mM_find 4 56 [(0, .inr 28), (1, .inl x1)] [] h post) : ∀ (n : Nat) (x2_38 : Int32) (h38 : Hp), Sat post (fM_find_L38 k56 x1 n x2_38 h38) → Ev mM_find 4 38 [(0, .inr 28), (1, .inl x1), (2, .inl x2_38)] [] h38 post := by
  intro n
  induction n with
  | zero =>
    intro x2_38 h38 hs
    exact False.elim hs
  | succ n ih =>
    intro x2_38 h38 hs
    refine ev_iload_n (pc := 38) dM_find_38 2 rfl rfl ?_
    refine ev_iconst (pc := 39) (v := 5) dM_find_39 (by decide) ?_
    refine ev_icmp_ge (pc := 40) (tgt := 56) dM_find_40 (by decide) hs (fun hs => ?_) (fun hs => ?_)
    · refine ev_sub [(0, .inr 28), (1, .inl x1)] [0, 1] rfl ?_
      exact hk56 _ hs
    · refine ev_aload_n (pc := 43) dM_find_43 0 rfl rfl ?_
      refine ev_getR (pc := 44) dM_find_44 lM_84 rfl rfl ?_
      refine ev_iload_n (pc := 47) dM_find_47 2 rfl rfl ?_
      refine ev_iconst (pc := 48) (v := 0) dM_find_48 (by decide) ?_
      refine ev_iast (pc := 49) dM_find_49 hs (fun h49 hs => ?_)
      refine ev_iinc (pc := 50) (L' := [(0, .inr 28), (1, .inl x1), (2, .inl (x2_38 + 1))]) (v := (x2_38 + 1)) dM_find_50 2 rfl (congrArg (HAdd.hAdd _) (by decide)) rfl (Nat.le_of_ble_eq_true rfl) rfl ?_
      refine ev_goto (pc := 53) (tgt := 38) dM_find_53 (by decide) ?_
      exact ih _ _ hs
set_option maxHeartbeats 4000000 in
set_option maxRecDepth 100000 in
theorem cM_find_L105 {k162 : Int32 → Hp → RO} {x1 : Int32} {x3 : Int32} {x5 : Int32} {post : Int32 → Hp → Prop} (hk162 : ∀ (y4 : Int32) (h : Hp), Sat post (k162 y4 h) → Ev mM_find 4 162 [(0, .inr 28), (1, .inl x1), (3, .inl x3), (4, .inl y4), (5, .inl x5)] [] h post) : ∀ (n : Nat) (x4_105 : Int32) (x6_105 : Int32) (h105 : Hp), Sat post (fM_find_L105 k162 x1 x3 x5 n x4_105 x6_105 h105) → Ev mM_find 4 105 [(0, .inr 28), (1, .inl x1), (3, .inl x3), (4, .inl x4_105), (5, .inl x5), (6, .inl x6_105)] [] h105 post := by
  intro n
  induction n with
  | zero =>
    intro x4_105 x6_105 h105 hs
    exact False.elim hs
  | succ n ih =>
    intro x4_105 x6_105 h105 hs
    refine ev_iload (pc := 105) dM_find_105 5 rfl ?_
    refine ev_iload (pc := 107) dM_find_107 4 rfl ?_
    refine ev_icmp_ge (pc := 109) (tgt := 162) dM_find_109 (by decide) hs (fun hs => ?_) (fun hs => ?_)
    · refine ev_sub [(0, .inr 28), (1, .inl x1), (3, .inl x3), (4, .inl x4_105), (5, .inl x5)] [0, 1, 2, 3, 4] rfl ?_
      exact hk162 _ _ hs
    · refine ev_iload_n (pc := 112) dM_find_112 2 rfl rfl ?_
      refine ev_if_eq (pc := 113) (tgt := 162) dM_find_113 (by decide) hs (fun hs => ?_) (fun hs => ?_)
      · refine ev_sub [(0, .inr 28), (1, .inl x1), (3, .inl x3), (4, .inl x4_105), (5, .inl x5)] [0, 1, 2, 3, 4] rfl ?_
        exact hk162 _ _ hs
      · refine ev_iload (pc := 116) dM_find_116 3 rfl ?_
        refine ev_aload_n (pc := 118) dM_find_118 0 rfl rfl ?_
        refine ev_getR (pc := 119) dM_find_119 lM_81 rfl rfl ?_
        refine ev_bipush (pc := 122) (v := 45) dM_find_122 (by decide) ?_
        refine ev_bipush (pc := 124) (v := 9) dM_find_124 (by decide) ?_
        refine ev_iload (pc := 126) dM_find_126 4 rfl ?_
        refine ev_imul (pc := 128) dM_find_128 ?_
        refine ev_aload_n (pc := 129) dM_find_129 0 rfl rfl ?_
        refine ev_getR (pc := 130) dM_find_130 lM_84 rfl rfl ?_
        refine ev_iload (pc := 133) dM_find_133 4 rfl ?_
        refine ev_iald (pc := 135) dM_find_135 hs (fun r135 hs => ?_)
        refine ev_iadd (pc := 136) dM_find_136 ?_
        refine ev_imul (pc := 137) dM_find_137 ?_
        refine ev_bipush (pc := 138) (v := 9) dM_find_138 (by decide) ?_
        refine ev_iload (pc := 140) dM_find_140 5 rfl ?_
        refine ev_imul (pc := 142) dM_find_142 ?_
        refine ev_iadd (pc := 143) dM_find_143 ?_
        refine ev_aload_n (pc := 144) dM_find_144 0 rfl rfl ?_
        refine ev_getR (pc := 145) dM_find_145 lM_84 rfl rfl ?_
        refine ev_iload (pc := 148) dM_find_148 5 rfl ?_
        refine ev_iald (pc := 150) dM_find_150 hs (fun r150 hs => ?_)
        refine ev_iadd (pc := 151) dM_find_151 ?_
        refine ev_iald (pc := 152) dM_find_152 hs (fun r152 hs => ?_)
        refine ev_iadd (pc := 153) dM_find_153 ?_
        refine ev_bnd hs (fun v154 hs => ?_)
        refine ev_istore (pc := 154) (L' := [(0, .inr 28), (1, .inl x1), (3, .inl x3), (4, .inl v154), (5, .inl x5), (6, .inl x6_105)]) dM_find_154 rfl (Nat.le_of_ble_eq_true rfl) rfl ?_
        refine ev_iinc (pc := 156) (L' := [(0, .inr 28), (1, .inl x1), (3, .inl x3), (4, .inl v154), (5, .inl x5), (6, .inl (x6_105 + 1))]) (v := (x6_105 + 1)) dM_find_156 5 rfl (congrArg (HAdd.hAdd _) (by decide)) rfl (Nat.le_of_ble_eq_true rfl) rfl ?_
        refine ev_goto (pc := 159) (tgt := 105) dM_find_159 (by decide) ?_
        exact ih _ _ _ hs
set_option maxHeartbeats 4000000 in
set_option maxRecDepth 100000 in
theorem cM_find_L70 {k187 : Int32 → Int32 → Hp → RO} {x1 : Int32} {post : Int32 → Hp → Prop} (hk187 : ∀ (y3 : Int32) (y4 : Int32) (h : Hp), Sat post (k187 y3 y4 h) → Ev mM_find 4 187 [(0, .inr 28), (1, .inl x1), (3, .inl y3), (4, .inl y4)] [] h post) : ∀ (n : Nat) (x3_70 : Int32) (x4_70 : Int32) (x5_70 : Int32) (h70 : Hp), Sat post (fM_find_L70 k187 x1 n x3_70 x4_70 x5_70 h70) → Ev mM_find 4 70 [(0, .inr 28), (1, .inl x1), (3, .inl x3_70), (4, .inl x4_70), (5, .inl x5_70)] [] h70 post := by
  intro n
  induction n with
  | zero =>
    intro x3_70 x4_70 x5_70 h70 hs
    exact False.elim hs
  | succ n ih =>
    intro x3_70 x4_70 x5_70 h70 hs
    refine ev_iload (pc := 70) dM_find_70 4 rfl ?_
    refine ev_aload_n (pc := 72) dM_find_72 0 rfl rfl ?_
    refine ev_getI (pc := 73) dM_find_73 lM_143 rfl rfl ?_
    refine ev_icmp_ge (pc := 76) (tgt := 187) dM_find_76 (by decide) hs (fun hs => ?_) (fun hs => ?_)
    · refine ev_sub [(0, .inr 28), (1, .inl x1), (3, .inl x3_70), (4, .inl x4_70)] [0, 1, 2, 3] rfl ?_
      exact hk187 _ _ _ hs
    · refine ev_iload_n (pc := 79) dM_find_79 2 rfl rfl ?_
      refine ev_if_eq (pc := 80) (tgt := 187) dM_find_80 (by decide) hs (fun hs => ?_) (fun hs => ?_)
      · refine ev_sub [(0, .inr 28), (1, .inl x1), (3, .inl x3_70), (4, .inl x4_70)] [0, 1, 2, 3] rfl ?_
        exact hk187 _ _ _ hs
      · refine ev_aload_n (pc := 83) dM_find_83 0 rfl rfl ?_
        refine ev_getR (pc := 84) dM_find_84 lM_78 rfl rfl ?_
        refine ev_bipush (pc := 87) (v := 9) dM_find_87 (by decide) ?_
        refine ev_iload (pc := 89) dM_find_89 4 rfl ?_
        refine ev_imul (pc := 91) dM_find_91 ?_
        refine ev_aload_n (pc := 92) dM_find_92 0 rfl rfl ?_
        refine ev_getR (pc := 93) dM_find_93 lM_84 rfl rfl ?_
        refine ev_iload (pc := 96) dM_find_96 4 rfl ?_
        refine ev_iald (pc := 98) dM_find_98 hs (fun r98 hs => ?_)
        refine ev_iadd (pc := 99) dM_find_99 ?_
        refine ev_zald (pc := 100) dM_find_100 hs (fun r100 hs => ?_)
        refine ev_istore_n (pc := 101) (L' := [(0, .inr 28), (1, .inl x1), (3, .inl r100), (4, .inl x4_70), (5, .inl x5_70)]) dM_find_101 rfl rfl (Nat.le_of_ble_eq_true rfl) rfl ?_
        refine ev_iconst (pc := 102) (v := 0) dM_find_102 (by decide) ?_
        refine ev_istore (pc := 103) (L' := [(0, .inr 28), (1, .inl x1), (3, .inl r100), (4, .inl x4_70), (5, .inl x5_70), (6, .inl 0)]) dM_find_103 rfl (Nat.le_of_ble_eq_true rfl) rfl ?_
        refine cM_find_L105 (fun x4_162 h162 hs => ?_) _ _ _ _ hs
        refine ev_iload_n (pc := 162) dM_find_162 2 rfl rfl ?_
        refine ev_jn (fun (j : Int32 → Hp → RO) => ∀ (s180 : Int32) (h180 : Hp), Sat post (j s180 h180) → Ev mM_find 4 180 [(0, .inr 28), (1, .inl x1), (4, .inl x4_162), (5, .inl x5_70)] [.inl s180] h180 post) hs (fun s180 h180 hs => ?_) (fun j180 hj180 hs => ?_)
        · refine ev_istore_n (pc := 180) (L' := [(0, .inr 28), (1, .inl x1), (3, .inl s180), (4, .inl x4_162), (5, .inl x5_70)]) dM_find_180 rfl rfl (Nat.le_of_ble_eq_true rfl) rfl ?_
          refine ev_iinc (pc := 181) (L' := [(0, .inr 28), (1, .inl x1), (3, .inl s180), (4, .inl x4_162), (5, .inl (x5_70 + 1))]) (v := (x5_70 + 1)) dM_find_181 4 rfl (congrArg (HAdd.hAdd _) (by decide)) rfl (Nat.le_of_ble_eq_true rfl) rfl ?_
          refine ev_goto (pc := 184) (tgt := 70) dM_find_184 (by decide) ?_
          exact ih _ _ _ _ hs
        refine ev_jn (fun (j : Hp → RO) => ∀  (h179 : Hp), Sat post (j h179) → Ev mM_find 4 179 [(0, .inr 28), (1, .inl x1), (4, .inl x4_162), (5, .inl x5_70)] [] h179 post) hs (fun h179 hs => ?_) (fun j179 hj179 hs => ?_)
        · refine ev_iconst (pc := 179) (v := 0) dM_find_179 (by decide) ?_
          exact hj180 _ _ hs
        refine ev_if_eq (pc := 163) (tgt := 179) dM_find_163 (by decide) hs (fun hs => ?_) (fun hs => ?_)
        · refine ev_sub [(0, .inr 28), (1, .inl x1), (4, .inl x4_162), (5, .inl x5_70)] [0, 1, 3, 4] rfl ?_
          exact hj179 _ hs
        · refine ev_iload (pc := 166) dM_find_166 3 rfl ?_
          refine ev_aload_n (pc := 168) dM_find_168 0 rfl rfl ?_
          refine ev_getI (pc := 169) dM_find_169 lM_154 rfl rfl ?_
          refine ev_icmp_gt (pc := 172) (tgt := 179) dM_find_172 (by decide) hs (fun hs => ?_) (fun hs => ?_)
          · refine ev_sub [(0, .inr 28), (1, .inl x1), (4, .inl x4_162), (5, .inl x5_70)] [0, 1, 3, 4] rfl ?_
            exact hj179 _ hs
          · refine ev_iconst (pc := 175) (v := 1) dM_find_175 (by decide) ?_
            refine ev_goto (pc := 176) (tgt := 180) dM_find_176 (by decide) ?_
            refine ev_sub [(0, .inr 28), (1, .inl x1), (4, .inl x4_162), (5, .inl x5_70)] [0, 1, 3, 4] rfl ?_
            exact hj180 _ _ hs
set_option maxHeartbeats 4000000 in
set_option maxRecDepth 100000 in
theorem cM_find_L206 {k241 : Int32 → Hp → RO} {x1 : Int32} {post : Int32 → Hp → Prop} (hk241 : ∀ (y5 : Int32) (h : Hp), Sat post (k241 y5 h) → Ev mM_find 4 241 [(0, .inr 28), (1, .inl x1), (5, .inl y5)] [] h post) : ∀ (n : Nat) (x5_206 : Int32) (h206 : Hp), Sat post (fM_find_L206 k241 x1 n x5_206 h206) → Ev mM_find 4 206 [(0, .inr 28), (1, .inl x1), (5, .inl x5_206)] [] h206 post := by
  intro n
  induction n with
  | zero =>
    intro x5_206 h206 hs
    exact False.elim hs
  | succ n ih =>
    intro x5_206 h206 hs
    refine ev_iload (pc := 206) dM_find_206 2 rfl ?_
    refine ev_if_lt (pc := 208) (tgt := 241) dM_find_208 (by decide) hs (fun hs => ?_) (fun hs => ?_)
    · exact hk241 _ _ hs
    · refine ev_aload_n (pc := 211) dM_find_211 0 rfl rfl ?_
      refine ev_getR (pc := 212) dM_find_212 lM_84 rfl rfl ?_
      refine ev_iload (pc := 215) dM_find_215 2 rfl ?_
      refine ev_iald (pc := 217) dM_find_217 hs (fun r217 hs => ?_)
      refine ev_aload_n (pc := 218) dM_find_218 0 rfl rfl ?_
      refine ev_callV (pc := 219) (As := []) (S := [.inl r217]) (d2 := 0) dM_find_219 vM_106 zM_places rfl rfl rfl rfl (Nat.le_of_ble_eq_true rfl) (Nat.le_of_ble_eq_true rfl) rfl rfl (fun p1 hz => cM_places hz) hs (fun r219 h219 hs => ?_)
      refine ev_iconst (pc := 222) (v := 1) dM_find_222 (by decide) ?_
      refine ev_isub (pc := 223) dM_find_223 ?_
      refine ev_icmp_ne (pc := 224) (tgt := 241) dM_find_224 (by decide) hs (fun hs => ?_) (fun hs => ?_)
      · exact hk241 _ _ hs
      · refine ev_aload_n (pc := 227) dM_find_227 0 rfl rfl ?_
        refine ev_getR (pc := 228) dM_find_228 lM_84 rfl rfl ?_
        refine ev_iload (pc := 231) dM_find_231 2 rfl ?_
        refine ev_iconst (pc := 233) (v := 0) dM_find_233 (by decide) ?_
        refine ev_iast (pc := 234) dM_find_234 hs (fun h234 hs => ?_)
        refine ev_iinc (pc := 235) (L' := [(0, .inr 28), (1, .inl x1), (5, .inl (x5_206 + (-1)))]) (v := (x5_206 + (-1))) dM_find_235 2 rfl (congrArg (HAdd.hAdd _) (by decide)) rfl (Nat.le_of_ble_eq_true rfl) rfl ?_
        refine ev_goto (pc := 238) (tgt := 206) dM_find_238 (by decide) ?_
        exact ih _ _ hs
set_option maxHeartbeats 4000000 in
set_option maxRecDepth 100000 in
theorem cM_find_L58 {x1 : Int32} {post : Int32 → Hp → Prop}  : ∀ (n : Nat) (x2_58 : Int32) (h58 : Hp), Sat post (fM_find_L58 x1 n x2_58 h58) → Ev mM_find 4 58 [(0, .inr 28), (1, .inl x1), (2, .inl x2_58)] [] h58 post := by
  intro n
  induction n with
  | zero =>
    intro x2_58 h58 hs
    exact False.elim hs
  | succ n ih =>
    intro x2_58 h58 hs
    refine ev_iload_n (pc := 58) dM_find_58 2 rfl rfl ?_
    refine ev_if_eq (pc := 59) (tgt := 270) dM_find_59 (by decide) hs (fun hs => ?_) (fun hs => ?_)
    · exact ev_vret rfl dM_find_270 hs
    · refine ev_iconst (pc := 62) (v := 1) dM_find_62 (by decide) ?_
      refine ev_istore_n (pc := 63) (L' := [(0, .inr 28), (1, .inl x1), (2, .inl x2_58), (3, .inl 1)]) dM_find_63 rfl rfl (Nat.le_of_ble_eq_true rfl) rfl ?_
      refine ev_iconst (pc := 64) (v := 0) dM_find_64 (by decide) ?_
      refine ev_istore (pc := 65) (L' := [(0, .inr 28), (1, .inl x1), (2, .inl x2_58), (3, .inl 1), (4, .inl 0)]) dM_find_65 rfl (Nat.le_of_ble_eq_true rfl) rfl ?_
      refine ev_iconst (pc := 67) (v := 0) dM_find_67 (by decide) ?_
      refine ev_istore (pc := 68) (L' := [(0, .inr 28), (1, .inl x1), (2, .inl x2_58), (3, .inl 1), (4, .inl 0), (5, .inl 0)]) dM_find_68 rfl (Nat.le_of_ble_eq_true rfl) rfl ?_
      refine ev_sub [(0, .inr 28), (1, .inl x1), (3, .inl 1), (4, .inl 0), (5, .inl 0)] [0, 1, 3, 4, 5] rfl ?_
      refine cM_find_L70 (fun x3_187 x4_187 h187 hs => ?_) _ _ _ _ _ hs
      refine ev_iload_n (pc := 187) dM_find_187 2 rfl rfl ?_
      refine ev_jn (fun (j : Hp → RO) => ∀  (h198 : Hp), Sat post (j h198) → Ev mM_find 4 198 [(0, .inr 28), (1, .inl x1)] [] h198 post) hs (fun h198 hs => ?_) (fun j198 hj198 hs => ?_)
      · refine ev_aload_n (pc := 198) dM_find_198 0 rfl rfl ?_
        refine ev_getI (pc := 199) dM_find_199 lM_143 rfl rfl ?_
        refine ev_iconst (pc := 202) (v := 1) dM_find_202 (by decide) ?_
        refine ev_isub (pc := 203) dM_find_203 ?_
        refine ev_bnd hs (fun v204 hs => ?_)
        refine ev_istore (pc := 204) (L' := [(0, .inr 28), (1, .inl x1), (5, .inl v204)]) dM_find_204 rfl (Nat.le_of_ble_eq_true rfl) rfl ?_
        refine cM_find_L206 (fun x5_241 h241 hs => ?_) _ _ _ hs
        refine ev_iload (pc := 241) dM_find_241 2 rfl ?_
        refine ev_jn (fun (j : Int32 → Hp → RO) => ∀ (s251 : Int32) (h251 : Hp), Sat post (j s251 h251) → Ev mM_find 4 251 [(0, .inr 28), (1, .inl x1), (5, .inl x5_241)] [.inl s251] h251 post) hs (fun s251 h251 hs => ?_) (fun j251 hj251 hs => ?_)
        · refine ev_istore_n (pc := 251) (L' := [(0, .inr 28), (1, .inl x1), (2, .inl s251), (5, .inl x5_241)]) dM_find_251 rfl rfl (Nat.le_of_ble_eq_true rfl) rfl ?_
          refine ev_iload_n (pc := 252) dM_find_252 2 rfl rfl ?_
          refine ev_jn (fun (j : Hp → RO) => ∀  (h267 : Hp), Sat post (j h267) → Ev mM_find 4 267 [(0, .inr 28), (1, .inl x1), (2, .inl s251)] [] h267 post) hs (fun h267 hs => ?_) (fun j267 hj267 hs => ?_)
          · refine ev_goto (pc := 267) (tgt := 58) dM_find_267 (by decide) ?_
            exact ih _ _ hs
          refine ev_if_eq (pc := 253) (tgt := 267) dM_find_253 (by decide) hs (fun hs => ?_) (fun hs => ?_)
          · refine ev_sub [(0, .inr 28), (1, .inl x1), (2, .inl s251)] [0, 1, 2] rfl ?_
            exact hj267 _ hs
          · refine ev_aload_n (pc := 256) dM_find_256 0 rfl rfl ?_
            refine ev_getR (pc := 257) dM_find_257 lM_84 rfl rfl ?_
            refine ev_iload (pc := 260) dM_find_260 3 rfl ?_
            refine ev_dup2 (pc := 262) dM_find_262 ?_
            refine ev_iald (pc := 263) dM_find_263 hs (fun r263 hs => ?_)
            refine ev_iconst (pc := 264) (v := 1) dM_find_264 (by decide) ?_
            refine ev_iadd (pc := 265) dM_find_265 ?_
            refine ev_iast (pc := 266) dM_find_266 hs (fun h266 hs => ?_)
            refine ev_sub [(0, .inr 28), (1, .inl x1), (2, .inl s251)] [0, 1, 2] rfl ?_
            exact hj267 _ hs
        refine ev_if_lt (pc := 243) (tgt := 250) dM_find_243 (by decide) hs (fun hs => ?_) (fun hs => ?_)
        · refine ev_iconst (pc := 250) (v := 0) dM_find_250 (by decide) ?_
          exact hj251 _ _ hs
        · refine ev_iconst (pc := 246) (v := 1) dM_find_246 (by decide) ?_
          refine ev_goto (pc := 247) (tgt := 251) dM_find_247 (by decide) ?_
          exact hj251 _ _ hs
      refine ev_if_eq (pc := 188) (tgt := 198) dM_find_188 (by decide) hs (fun hs => ?_) (fun hs => ?_)
      · refine ev_sub [(0, .inr 28), (1, .inl x1)] [0, 1] rfl ?_
        exact hj198 _ hs
      · refine ev_aload_n (pc := 191) dM_find_191 0 rfl rfl ?_
        refine ev_iload (pc := 192) dM_find_192 3 rfl ?_
        refine ev_iload_n (pc := 194) dM_find_194 1 rfl rfl ?_
        refine ev_callVv (pc := 195) (As := [.inl x4_187, .inl x1]) (S := []) (d2 := 2) dM_find_195 vM_164 zM_keepLaying rfl rfl rfl rfl (Nat.le_of_ble_eq_true rfl) (Nat.le_of_ble_eq_true rfl) rfl rfl (fun p1 hz => cM_keepLaying hz) hs (fun r195 h195 hs => ?_)
        refine ev_sub [(0, .inr 28), (1, .inl x1)] [0, 1] rfl ?_
        exact hj198 _ hs
set_option maxHeartbeats 4000000 in
set_option maxRecDepth 100000 in
theorem cM_find {h0 : Hp} {x1 : Int32} {post : Int32 → Hp → Prop} (hs : Sat post (fM_find h0 x1)) : Mt mM_find 4 [.inr 28, .inl x1] h0 post := by
  refine mt_body (L := [(0, .inr 28), (1, .inl x1)]) (by decide +kernel) (Nat.le_of_ble_eq_true rfl) rfl ?_
  refine ev_aload_n (pc := 0) dM_find_0 0 rfl rfl ?_
  refine ev_callVv (pc := 1) (As := []) (S := []) (d2 := 3) dM_find_1 vM_160 zM_prepare rfl rfl rfl rfl (Nat.le_of_ble_eq_true rfl) (Nat.le_of_ble_eq_true rfl) rfl rfl (fun p1 hz => cM_prepare hz) hs (fun r1 h1 hs => ?_)
  refine ev_aload_n (pc := 4) dM_find_4 0 rfl rfl ?_
  refine ev_ldc (pc := 5) (v := 1000000) dM_find_5 kM_163 ?_
  refine ev_putI (pc := 7) dM_find_7 lM_154 w5_30 rfl rfl hs (fun h7 hs => ?_)
  refine ev_aload_n (pc := 10) dM_find_10 0 rfl rfl ?_
  refine ev_iconst (pc := 11) (v := 0) dM_find_11 (by decide) ?_
  refine ev_putI (pc := 12) dM_find_12 lM_157 w5_31 rfl rfl hs (fun h12 hs => ?_)
  refine ev_iconst (pc := 15) (v := 0) dM_find_15 (by decide) ?_
  refine ev_istore_n (pc := 16) (L' := [(0, .inr 28), (1, .inl x1), (2, .inl 0)]) dM_find_16 rfl rfl (Nat.le_of_ble_eq_true rfl) rfl ?_
  refine cM_find_L17 (fun h36 hs => ?_) _ _ _ hs
  refine ev_iconst (pc := 36) (v := 0) dM_find_36 (by decide) ?_
  refine ev_istore_n (pc := 37) (L' := [(0, .inr 28), (1, .inl x1), (2, .inl 0)]) dM_find_37 rfl rfl (Nat.le_of_ble_eq_true rfl) rfl ?_
  refine cM_find_L38 (fun h56 hs => ?_) _ _ _ hs
  refine ev_iconst (pc := 56) (v := 1) dM_find_56 (by decide) ?_
  refine ev_istore_n (pc := 57) (L' := [(0, .inr 28), (1, .inl x1), (2, .inl 1)]) dM_find_57 rfl rfl (Nat.le_of_ble_eq_true rfl) rfl ?_
  exact cM_find_L58  _ _ _ hs
set_option maxHeartbeats 4000000 in
set_option maxRecDepth 100000 in
theorem cM_quarrel {h0 : Hp}  {post : Int32 → Hp → Prop} (hs : Sat post (fM_quarrel h0 )) : Mt mM_quarrel 5 [.inr 28] h0 post := by
  refine mt_body (L := [(0, .inr 28)]) (by decide +kernel) (Nat.le_of_ble_eq_true rfl) rfl ?_
  refine ev_aload_n (pc := 0) dM_quarrel_0 0 rfl rfl ?_
  refine ev_iconst (pc := 1) (v := (-1)) dM_quarrel_1 (by decide) ?_
  refine ev_callVv (pc := 2) (As := [.inl (-1)]) (S := []) (d2 := 4) dM_quarrel_2 vM_168 zM_find rfl rfl rfl rfl (Nat.le_of_ble_eq_true rfl) (Nat.le_of_ble_eq_true rfl) rfl rfl (fun p1 hz => cM_find hz) hs (fun r2 h2 hs => ?_)
  refine ev_aload_n (pc := 5) dM_quarrel_5 0 rfl rfl ?_
  refine ev_getI (pc := 6) dM_quarrel_6 lM_157 rfl rfl ?_
  refine ev_if_ne (pc := 9) (tgt := 17) dM_quarrel_9 (by decide) hs (fun hs => ?_) (fun hs => ?_)
  · refine ev_aload_n (pc := 17) dM_quarrel_17 0 rfl rfl ?_
    refine ev_getI (pc := 18) dM_quarrel_18 lM_154 rfl rfl ?_
    exact ev_iret rfl dM_quarrel_21 hs
  · refine ev_bipush (pc := 12) (v := (-4)) dM_quarrel_12 (by decide) ?_
    refine ev_goto (pc := 14) (tgt := 21) dM_quarrel_14 (by decide) ?_
    exact ev_iret rfl dM_quarrel_21 hs
set_option maxHeartbeats 4000000 in
set_option maxRecDepth 100000 in
theorem cM_layings {h0 : Hp}  {post : Int32 → Hp → Prop} (hs : Sat post (fM_layings h0 )) : Mt mM_layings 5 [.inr 28] h0 post := by
  refine mt_body (L := [(0, .inr 28)]) (by decide +kernel) (Nat.le_of_ble_eq_true rfl) rfl ?_
  refine ev_aload_n (pc := 0) dM_layings_0 0 rfl rfl ?_
  refine ev_iconst (pc := 1) (v := (-1)) dM_layings_1 (by decide) ?_
  refine ev_callVv (pc := 2) (As := [.inl (-1)]) (S := []) (d2 := 4) dM_layings_2 vM_168 zM_find rfl rfl rfl rfl (Nat.le_of_ble_eq_true rfl) (Nat.le_of_ble_eq_true rfl) rfl rfl (fun p1 hz => cM_find hz) hs (fun r2 h2 hs => ?_)
  refine ev_aload_n (pc := 5) dM_layings_5 0 rfl rfl ?_
  refine ev_getI (pc := 6) dM_layings_6 lM_157 rfl rfl ?_
  exact ev_iret rfl dM_layings_9 hs
set_option maxHeartbeats 4000000 in
set_option maxRecDepth 100000 in
theorem cM_laying_L45 {k61 : Int32 → Hp → RO} {x2 : Int32} {post : Int32 → Hp → Prop} (hk61 : ∀ (y3 : Int32) (h : Hp), Sat post (k61 y3 h) → Ev mM_laying 5 61 [(0, .inr 28), (3, .inl y3)] [] h post) : ∀ (n : Nat) (x3_45 : Int32) (h45 : Hp), Sat post (fM_laying_L45 k61 x2 n x3_45 h45) → Ev mM_laying 5 45 [(0, .inr 28), (2, .inl x2), (3, .inl x3_45)] [] h45 post := by
  intro n
  induction n with
  | zero =>
    intro x3_45 h45 hs
    exact False.elim hs
  | succ n ih =>
    intro x3_45 h45 hs
    refine ev_aload_n (pc := 45) dM_laying_45 0 rfl rfl ?_
    refine ev_getR (pc := 46) dM_laying_46 lM_75 rfl rfl ?_
    refine ev_iload_n (pc := 49) dM_laying_49 2 rfl rfl ?_
    refine ev_iald (pc := 50) dM_laying_50 hs (fun r50 hs => ?_)
    refine ev_iload_n (pc := 51) dM_laying_51 1 rfl rfl ?_
    refine ev_icmp_eq (pc := 52) (tgt := 61) dM_laying_52 (by decide) hs (fun hs => ?_) (fun hs => ?_)
    · refine ev_sub [(0, .inr 28), (3, .inl x3_45)] [0, 2] rfl ?_
      exact hk61 _ _ hs
    · refine ev_iinc (pc := 55) (L' := [(0, .inr 28), (2, .inl x2), (3, .inl (x3_45 + 1))]) (v := (x3_45 + 1)) dM_laying_55 2 rfl (congrArg (HAdd.hAdd _) (by decide)) rfl (Nat.le_of_ble_eq_true rfl) rfl ?_
      refine ev_goto (pc := 58) (tgt := 45) dM_laying_58 (by decide) ?_
      exact ih _ _ hs
set_option maxHeartbeats 4000000 in
set_option maxRecDepth 100000 in
theorem cM_laying {h0 : Hp} {x1 : Int32} {x2 : Int32} {post : Int32 → Hp → Prop} (hs : Sat post (fM_laying h0 x1 x2)) : Mt mM_laying 5 [.inr 28, .inl x1, .inl x2] h0 post := by
  refine mt_body (L := [(0, .inr 28), (1, .inl x1), (2, .inl x2)]) (by decide +kernel) (Nat.le_of_ble_eq_true rfl) rfl ?_
  refine ev_aload_n (pc := 0) dM_laying_0 0 rfl rfl ?_
  refine ev_iload_n (pc := 1) dM_laying_1 2 rfl rfl ?_
  refine ev_callV (pc := 2) (As := [.inl x2]) (S := []) (d2 := 1) dM_laying_2 vM_117 zM_isPiece rfl rfl rfl rfl (Nat.le_of_ble_eq_true rfl) (Nat.le_of_ble_eq_true rfl) rfl rfl (fun p1 hz => cM_isPiece hz) hs (fun r2 h2 hs => ?_)
  refine ev_if_ne (pc := 5) (tgt := 10) dM_laying_5 (by decide) hs (fun hs => ?_) (fun hs => ?_)
  · refine ev_aload_n (pc := 10) dM_laying_10 0 rfl rfl ?_
    refine ev_iload_n (pc := 11) dM_laying_11 2 rfl rfl ?_
    refine ev_callV (pc := 12) (As := [.inl x2]) (S := []) (d2 := 2) dM_laying_12 vM_136 zM_takesPart rfl rfl rfl rfl (Nat.le_of_ble_eq_true rfl) (Nat.le_of_ble_eq_true rfl) rfl rfl (fun p1 hz => cM_takesPart hz) hs (fun r12 h12 hs => ?_)
    refine ev_if_ne (pc := 15) (tgt := 21) dM_laying_15 (by decide) hs (fun hs => ?_) (fun hs => ?_)
    · refine ev_aload_n (pc := 21) dM_laying_21 0 rfl rfl ?_
      refine ev_iload_n (pc := 22) dM_laying_22 1 rfl rfl ?_
      refine ev_callVv (pc := 23) (As := [.inl x1]) (S := []) (d2 := 4) dM_laying_23 vM_168 zM_find rfl rfl rfl rfl (Nat.le_of_ble_eq_true rfl) (Nat.le_of_ble_eq_true rfl) rfl rfl (fun p1 hz => cM_find hz) hs (fun r23 h23 hs => ?_)
      refine ev_iload_n (pc := 26) dM_laying_26 1 rfl rfl ?_
      refine ev_iconst (pc := 27) (v := 0) dM_laying_27 (by decide) ?_
      refine ev_aload_n (pc := 28) dM_laying_28 0 rfl rfl ?_
      refine ev_getI (pc := 29) dM_laying_29 lM_157 rfl rfl ?_
      refine ev_iconst (pc := 32) (v := 1) dM_laying_32 (by decide) ?_
      refine ev_isub (pc := 33) dM_laying_33 ?_
      refine ev_callS (pc := 34) (As := [.inl x1, .inl 0, .inl ((h23 28 31) - 1)]) (S := []) (d2 := 0) dM_laying_34 (Or.inl vM_99) zM_in rfl (Nat.le_of_ble_eq_true rfl) (Nat.le_of_ble_eq_true rfl) rfl rfl (fun p1 hz => cM_in hz) hs (fun r34 h34 hs => ?_)
      refine ev_if_ne (pc := 37) (tgt := 43) dM_laying_37 (by decide) hs (fun hs => ?_) (fun hs => ?_)
      · refine ev_iconst (pc := 43) (v := 0) dM_laying_43 (by decide) ?_
        refine ev_istore_n (pc := 44) (L' := [(0, .inr 28), (1, .inl x1), (2, .inl x2), (3, .inl 0)]) dM_laying_44 rfl rfl (Nat.le_of_ble_eq_true rfl) rfl ?_
        refine ev_sub [(0, .inr 28), (2, .inl x2), (3, .inl 0)] [0, 2, 3] rfl ?_
        refine cM_laying_L45 (fun x3_61 h61 hs => ?_) _ _ _ hs
        refine ev_aload_n (pc := 61) dM_laying_61 0 rfl rfl ?_
        refine ev_getR (pc := 62) dM_laying_62 lM_90 rfl rfl ?_
        refine ev_iload_n (pc := 65) dM_laying_65 1 rfl rfl ?_
        refine ev_iald (pc := 66) dM_laying_66 hs (fun r66 hs => ?_)
        exact ev_iret rfl dM_laying_67 hs
      · refine ev_bipush (pc := 40) (v := (-4)) dM_laying_40 (by decide) ?_
        exact ev_iret rfl dM_laying_42 hs
    · refine ev_bipush (pc := 18) (v := (-5)) dM_laying_18 (by decide) ?_
      exact ev_iret rfl dM_laying_20 hs
  · refine ev_iconst (pc := 8) (v := (-1)) dM_laying_8 (by decide) ?_
    exact ev_iret rfl dM_laying_9 hs
set_option maxHeartbeats 4000000 in
set_option maxRecDepth 100000 in
theorem cM_rivals {h0 : Hp} {x1 : Int32} {post : Int32 → Hp → Prop} (hs : Sat post (fM_rivals h0 x1)) : Mt mM_rivals 5 [.inr 28, .inl x1] h0 post := by
  refine mt_body (L := [(0, .inr 28), (1, .inl x1)]) (by decide +kernel) (Nat.le_of_ble_eq_true rfl) rfl ?_
  refine ev_aload_n (pc := 0) dM_rivals_0 0 rfl rfl ?_
  refine ev_iload_n (pc := 1) dM_rivals_1 1 rfl rfl ?_
  refine ev_callV (pc := 2) (As := [.inl x1]) (S := []) (d2 := 1) dM_rivals_2 vM_110 zM_isCopy rfl rfl rfl rfl (Nat.le_of_ble_eq_true rfl) (Nat.le_of_ble_eq_true rfl) rfl rfl (fun p1 hz => cM_isCopy hz) hs (fun r2 h2 hs => ?_)
  refine ev_if_ne (pc := 5) (tgt := 10) dM_rivals_5 (by decide) hs (fun hs => ?_) (fun hs => ?_)
  · refine ev_aload_n (pc := 10) dM_rivals_10 0 rfl rfl ?_
    refine ev_aload_n (pc := 11) dM_rivals_11 0 rfl rfl ?_
    refine ev_getR (pc := 12) dM_rivals_12 lM_33 rfl rfl ?_
    refine ev_iload_n (pc := 15) dM_rivals_15 1 rfl rfl ?_
    refine ev_iald (pc := 16) dM_rivals_16 hs (fun r16 hs => ?_)
    refine ev_callV (pc := 17) (As := [.inl r16]) (S := []) (d2 := 2) dM_rivals_17 vM_136 zM_takesPart rfl rfl rfl rfl (Nat.le_of_ble_eq_true rfl) (Nat.le_of_ble_eq_true rfl) rfl rfl (fun p1 hz => cM_takesPart hz) hs (fun r17 h17 hs => ?_)
    refine ev_if_ne (pc := 20) (tgt := 26) dM_rivals_20 (by decide) hs (fun hs => ?_) (fun hs => ?_)
    · refine ev_aload_n (pc := 26) dM_rivals_26 0 rfl rfl ?_
      refine ev_iconst (pc := 27) (v := (-1)) dM_rivals_27 (by decide) ?_
      refine ev_callVv (pc := 28) (As := [.inl (-1)]) (S := []) (d2 := 4) dM_rivals_28 vM_168 zM_find rfl rfl rfl rfl (Nat.le_of_ble_eq_true rfl) (Nat.le_of_ble_eq_true rfl) rfl rfl (fun p1 hz => cM_find hz) hs (fun r28 h28 hs => ?_)
      refine ev_aload_n (pc := 31) dM_rivals_31 0 rfl rfl ?_
      refine ev_getI (pc := 32) dM_rivals_32 lM_157 rfl rfl ?_
      refine ev_if_ne (pc := 35) (tgt := 43) dM_rivals_35 (by decide) hs (fun hs => ?_) (fun hs => ?_)
      · refine ev_aload_n (pc := 43) dM_rivals_43 0 rfl rfl ?_
        refine ev_getR (pc := 44) dM_rivals_44 lM_87 rfl rfl ?_
        refine ev_iload_n (pc := 47) dM_rivals_47 1 rfl rfl ?_
        refine ev_iald (pc := 48) dM_rivals_48 hs (fun r48 hs => ?_)
        exact ev_iret rfl dM_rivals_49 hs
      · refine ev_bipush (pc := 38) (v := (-4)) dM_rivals_38 (by decide) ?_
        refine ev_goto (pc := 40) (tgt := 49) dM_rivals_40 (by decide) ?_
        exact ev_iret rfl dM_rivals_49 hs
    · refine ev_bipush (pc := 23) (v := (-5)) dM_rivals_23 (by decide) ?_
      exact ev_iret rfl dM_rivals_25 hs
  · refine ev_iconst (pc := 8) (v := (-1)) dM_rivals_8 (by decide) ?_
    exact ev_iret rfl dM_rivals_9 hs
set_option maxHeartbeats 4000000 in
set_option maxRecDepth 100000 in
theorem cM_manyOf_L4 {x0 : Int32} {post : Int32 → Hp → Prop}  : ∀ (n : Nat) (x1_4 : Int32) (x2_4 : Int32) (h4 : Hp), Sat post (fM_manyOf_L4 x0 n x1_4 x2_4 h4) → Ev mM_manyOf 0 4 [(0, .inl x0), (1, .inl x1_4), (2, .inl x2_4)] [] h4 post := by
  intro n
  induction n with
  | zero =>
    intro x1_4 x2_4 h4 hs
    exact False.elim hs
  | succ n ih =>
    intro x1_4 x2_4 h4 hs
    refine ev_iload_n (pc := 4) dM_manyOf_4 2 rfl rfl ?_
    refine ev_bipush (pc := 5) (v := 9) dM_manyOf_5 (by decide) ?_
    refine ev_icmp_ge (pc := 7) (tgt := 24) dM_manyOf_7 (by decide) hs (fun hs => ?_) (fun hs => ?_)
    · refine ev_iload_n (pc := 24) dM_manyOf_24 1 rfl rfl ?_
      exact ev_iret rfl dM_manyOf_25 hs
    · refine ev_iload_n (pc := 10) dM_manyOf_10 1 rfl rfl ?_
      refine ev_iload_n (pc := 11) dM_manyOf_11 0 rfl rfl ?_
      refine ev_iload_n (pc := 12) dM_manyOf_12 2 rfl rfl ?_
      refine ev_ishr (pc := 13) dM_manyOf_13 ?_
      refine ev_iconst (pc := 14) (v := 1) dM_manyOf_14 (by decide) ?_
      refine ev_iand (pc := 15) dM_manyOf_15 ?_
      refine ev_iadd (pc := 16) dM_manyOf_16 ?_
      refine ev_bnd hs (fun v17 hs => ?_)
      refine ev_istore_n (pc := 17) (L' := [(0, .inl x0), (1, .inl v17), (2, .inl x2_4)]) dM_manyOf_17 rfl rfl (Nat.le_of_ble_eq_true rfl) rfl ?_
      refine ev_iinc (pc := 18) (L' := [(0, .inl x0), (1, .inl v17), (2, .inl (x2_4 + 1))]) (v := (x2_4 + 1)) dM_manyOf_18 2 rfl (congrArg (HAdd.hAdd _) (by decide)) rfl (Nat.le_of_ble_eq_true rfl) rfl ?_
      refine ev_goto (pc := 21) (tgt := 4) dM_manyOf_21 (by decide) ?_
      exact ih _ _ _ hs
set_option maxHeartbeats 4000000 in
set_option maxRecDepth 100000 in
theorem cM_manyOf {h0 : Hp} {x0 : Int32} {post : Int32 → Hp → Prop} (hs : Sat post (fM_manyOf h0 x0)) : Mt mM_manyOf 0 [.inl x0] h0 post := by
  refine mt_body (L := [(0, .inl x0)]) (by decide +kernel) (Nat.le_of_ble_eq_true rfl) rfl ?_
  refine ev_iconst (pc := 0) (v := 0) dM_manyOf_0 (by decide) ?_
  refine ev_istore_n (pc := 1) (L' := [(0, .inl x0), (1, .inl 0)]) dM_manyOf_1 rfl rfl (Nat.le_of_ble_eq_true rfl) rfl ?_
  refine ev_iconst (pc := 2) (v := 0) dM_manyOf_2 (by decide) ?_
  refine ev_istore_n (pc := 3) (L' := [(0, .inl x0), (1, .inl 0), (2, .inl 0)]) dM_manyOf_3 rfl rfl (Nat.le_of_ble_eq_true rfl) rfl ?_
  exact cM_manyOf_L4  _ _ _ _ hs
set_option maxHeartbeats 4000000 in
set_option maxRecDepth 100000 in
theorem cM_placeIn_L2 {x0 : Int32} {post : Int32 → Hp → Prop}  : ∀ (n : Nat) (x1_2 : Int32) (h2 : Hp), Sat post (fM_placeIn_L2 x0 n x1_2 h2) → Ev mM_placeIn 0 2 [(0, .inl x0), (1, .inl x1_2)] [] h2 post := by
  intro n
  induction n with
  | zero =>
    intro x1_2 h2 hs
    exact False.elim hs
  | succ n ih =>
    intro x1_2 h2 hs
    refine ev_iload_n (pc := 2) dM_placeIn_2 0 rfl rfl ?_
    refine ev_iload_n (pc := 3) dM_placeIn_3 1 rfl rfl ?_
    refine ev_ishr (pc := 4) dM_placeIn_4 ?_
    refine ev_iconst (pc := 5) (v := 1) dM_placeIn_5 (by decide) ?_
    refine ev_iand (pc := 6) dM_placeIn_6 ?_
    refine ev_if_ne (pc := 7) (tgt := 16) dM_placeIn_7 (by decide) hs (fun hs => ?_) (fun hs => ?_)
    · refine ev_iload_n (pc := 16) dM_placeIn_16 1 rfl rfl ?_
      exact ev_iret rfl dM_placeIn_17 hs
    · refine ev_iinc (pc := 10) (L' := [(0, .inl x0), (1, .inl (x1_2 + 1))]) (v := (x1_2 + 1)) dM_placeIn_10 1 rfl (congrArg (HAdd.hAdd _) (by decide)) rfl (Nat.le_of_ble_eq_true rfl) rfl ?_
      refine ev_goto (pc := 13) (tgt := 2) dM_placeIn_13 (by decide) ?_
      exact ih _ _ hs
set_option maxHeartbeats 4000000 in
set_option maxRecDepth 100000 in
theorem cM_placeIn {h0 : Hp} {x0 : Int32} {post : Int32 → Hp → Prop} (hs : Sat post (fM_placeIn h0 x0)) : Mt mM_placeIn 0 [.inl x0] h0 post := by
  refine mt_body (L := [(0, .inl x0)]) (by decide +kernel) (Nat.le_of_ble_eq_true rfl) rfl ?_
  refine ev_iconst (pc := 0) (v := 0) dM_placeIn_0 (by decide) ?_
  refine ev_istore_n (pc := 1) (L' := [(0, .inl x0), (1, .inl 0)]) dM_placeIn_1 rfl rfl (Nat.le_of_ble_eq_true rfl) rfl ?_
  exact cM_placeIn_L2  _ _ _ hs
set_option maxHeartbeats 4000000 in
set_option maxRecDepth 100000 in
theorem cM_place {h0 : Hp} {x1 : Int32} {post : Int32 → Hp → Prop} (hs : Sat post (fM_place h0 x1)) : Mt mM_place 6 [.inr 28, .inl x1] h0 post := by
  refine mt_body (L := [(0, .inr 28), (1, .inl x1)]) (by decide +kernel) (Nat.le_of_ble_eq_true rfl) rfl ?_
  refine ev_aload_n (pc := 0) dM_place_0 0 rfl rfl ?_
  refine ev_iload_n (pc := 1) dM_place_1 1 rfl rfl ?_
  refine ev_callV (pc := 2) (As := [.inl x1]) (S := []) (d2 := 5) dM_place_2 vM_172 zM_rivals rfl rfl rfl rfl (Nat.le_of_ble_eq_true rfl) (Nat.le_of_ble_eq_true rfl) rfl rfl (fun p1 hz => cM_rivals hz) hs (fun r2 h2 hs => ?_)
  refine ev_istore_n (pc := 5) (L' := [(0, .inr 28), (1, .inl x1), (2, .inl r2)]) dM_place_5 rfl rfl (Nat.le_of_ble_eq_true rfl) rfl ?_
  refine ev_iload_n (pc := 6) dM_place_6 2 rfl rfl ?_
  refine ev_if_ge (pc := 7) (tgt := 12) dM_place_7 (by decide) hs (fun hs => ?_) (fun hs => ?_)
  · refine ev_iload_n (pc := 12) dM_place_12 2 rfl rfl ?_
    refine ev_callS (pc := 13) (As := [.inl r2]) (S := []) (d2 := 0) dM_place_13 (Or.inl vM_175) zM_manyOf rfl (Nat.le_of_ble_eq_true rfl) (Nat.le_of_ble_eq_true rfl) rfl rfl (fun p1 hz => cM_manyOf hz) hs (fun r13 h13 hs => ?_)
    refine ev_iconst (pc := 16) (v := 1) dM_place_16 (by decide) ?_
    refine ev_icmp_ne (pc := 17) (tgt := 27) dM_place_17 (by decide) hs (fun hs => ?_) (fun hs => ?_)
    · refine ev_bipush (pc := 27) (v := (-6)) dM_place_27 (by decide) ?_
      exact ev_iret rfl dM_place_29 hs
    · refine ev_iload_n (pc := 20) dM_place_20 2 rfl rfl ?_
      refine ev_callS (pc := 21) (As := [.inl r2]) (S := []) (d2 := 0) dM_place_21 (Or.inl vM_178) zM_placeIn rfl (Nat.le_of_ble_eq_true rfl) (Nat.le_of_ble_eq_true rfl) rfl rfl (fun p1 hz => cM_placeIn hz) hs (fun r21 h21 hs => ?_)
      refine ev_goto (pc := 24) (tgt := 29) dM_place_24 (by decide) ?_
      exact ev_iret rfl dM_place_29 hs
  · refine ev_iload_n (pc := 10) dM_place_10 2 rfl rfl ?_
    exact ev_iret rfl dM_place_11 hs
set_option maxHeartbeats 4000000 in
set_option maxRecDepth 100000 in
theorem cM_isPlace {h0 : Hp} {x1 : Int32} {post : Int32 → Hp → Prop} (hs : Sat post (fM_isPlace h0 x1)) : Mt mM_isPlace 1 [.inr 28, .inl x1] h0 post := by
  refine mt_body (L := [(0, .inr 28), (1, .inl x1)]) (by decide +kernel) (Nat.le_of_ble_eq_true rfl) rfl ?_
  refine ev_iload_n (pc := 0) dM_isPlace_0 1 rfl rfl ?_
  refine ev_iconst (pc := 1) (v := 0) dM_isPlace_1 (by decide) ?_
  refine ev_aload_n (pc := 2) dM_isPlace_2 0 rfl rfl ?_
  refine ev_callV (pc := 3) (As := []) (S := [.inl 0, .inl x1]) (d2 := 0) dM_isPlace_3 vM_106 zM_places rfl rfl rfl rfl (Nat.le_of_ble_eq_true rfl) (Nat.le_of_ble_eq_true rfl) rfl rfl (fun p1 hz => cM_places hz) hs (fun r3 h3 hs => ?_)
  refine ev_iconst (pc := 6) (v := 1) dM_isPlace_6 (by decide) ?_
  refine ev_isub (pc := 7) dM_isPlace_7 ?_
  refine ev_callS (pc := 8) (As := [.inl x1, .inl 0, .inl (r3 - 1)]) (S := []) (d2 := 0) dM_isPlace_8 (Or.inl vM_99) zM_in rfl (Nat.le_of_ble_eq_true rfl) (Nat.le_of_ble_eq_true rfl) rfl rfl (fun p1 hz => cM_in hz) hs (fun r8 h8 hs => ?_)
  exact ev_zret rfl dM_isPlace_11 hs
set_option maxHeartbeats 4000000 in
set_option maxRecDepth 100000 in
theorem cM_findOrder_L32 {k78 : Int32 → Hp → RO} {x1 : Int32} {x2 : Int32} {post : Int32 → Hp → Prop} (hk78 : ∀ (y3 : Int32) (h : Hp), Sat post (k78 y3 h) → Ev mM_findOrder 0 78 [(0, .inr 28), (1, .inl x1), (2, .inl x2), (3, .inl y3)] [] h post) : ∀ (n : Nat) (x3_32 : Int32) (h32 : Hp), Sat post (fM_findOrder_L32 k78 x1 x2 n x3_32 h32) → Ev mM_findOrder 0 32 [(0, .inr 28), (1, .inl x1), (2, .inl x2), (3, .inl x3_32)] [] h32 post := by
  intro n
  induction n with
  | zero =>
    intro x3_32 h32 hs
    exact False.elim hs
  | succ n ih =>
    intro x3_32 h32 hs
    refine ev_iload_n (pc := 32) dM_findOrder_32 3 rfl rfl ?_
    refine ev_if_le (pc := 33) (tgt := 78) dM_findOrder_33 (by decide) hs (fun hs => ?_) (fun hs => ?_)
    · exact hk78 _ _ hs
    · refine ev_aload_n (pc := 36) dM_findOrder_36 0 rfl rfl ?_
      refine ev_getR (pc := 37) dM_findOrder_37 lM_45 rfl rfl ?_
      refine ev_aload_n (pc := 40) dM_findOrder_40 0 rfl rfl ?_
      refine ev_getR (pc := 41) dM_findOrder_41 lM_93 rfl rfl ?_
      refine ev_iload_n (pc := 44) dM_findOrder_44 3 rfl rfl ?_
      refine ev_iconst (pc := 45) (v := 1) dM_findOrder_45 (by decide) ?_
      refine ev_isub (pc := 46) dM_findOrder_46 ?_
      refine ev_iald (pc := 47) dM_findOrder_47 hs (fun r47 hs => ?_)
      refine ev_iald (pc := 48) dM_findOrder_48 hs (fun r48 hs => ?_)
      refine ev_aload_n (pc := 49) dM_findOrder_49 0 rfl rfl ?_
      refine ev_getR (pc := 50) dM_findOrder_50 lM_45 rfl rfl ?_
      refine ev_iload_n (pc := 53) dM_findOrder_53 2 rfl rfl ?_
      refine ev_iald (pc := 54) dM_findOrder_54 hs (fun r54 hs => ?_)
      refine ev_icmp_le (pc := 55) (tgt := 78) dM_findOrder_55 (by decide) hs (fun hs => ?_) (fun hs => ?_)
      · exact hk78 _ _ hs
      · refine ev_aload_n (pc := 58) dM_findOrder_58 0 rfl rfl ?_
        refine ev_getR (pc := 59) dM_findOrder_59 lM_93 rfl rfl ?_
        refine ev_iload_n (pc := 62) dM_findOrder_62 3 rfl rfl ?_
        refine ev_aload_n (pc := 63) dM_findOrder_63 0 rfl rfl ?_
        refine ev_getR (pc := 64) dM_findOrder_64 lM_93 rfl rfl ?_
        refine ev_iload_n (pc := 67) dM_findOrder_67 3 rfl rfl ?_
        refine ev_iconst (pc := 68) (v := 1) dM_findOrder_68 (by decide) ?_
        refine ev_isub (pc := 69) dM_findOrder_69 ?_
        refine ev_iald (pc := 70) dM_findOrder_70 hs (fun r70 hs => ?_)
        refine ev_iast (pc := 71) dM_findOrder_71 hs (fun h71 hs => ?_)
        refine ev_iinc (pc := 72) (L' := [(0, .inr 28), (1, .inl x1), (2, .inl x2), (3, .inl (x3_32 + (-1)))]) (v := (x3_32 + (-1))) dM_findOrder_72 3 rfl (congrArg (HAdd.hAdd _) (by decide)) rfl (Nat.le_of_ble_eq_true rfl) rfl ?_
        refine ev_goto (pc := 75) (tgt := 32) dM_findOrder_75 (by decide) ?_
        exact ih _ _ hs
set_option maxHeartbeats 4000000 in
set_option maxRecDepth 100000 in
theorem cM_findOrder_L7 {x1 : Int32} {post : Int32 → Hp → Prop}  : ∀ (n : Nat) (x2_7 : Int32) (h7 : Hp), Sat post (fM_findOrder_L7 x1 n x2_7 h7) → Ev mM_findOrder 0 7 [(0, .inr 28), (1, .inl x1), (2, .inl x2_7)] [] h7 post := by
  intro n
  induction n with
  | zero =>
    intro x2_7 h7 hs
    exact False.elim hs
  | succ n ih =>
    intro x2_7 h7 hs
    refine ev_iload_n (pc := 7) dM_findOrder_7 2 rfl rfl ?_
    refine ev_aload_n (pc := 8) dM_findOrder_8 0 rfl rfl ?_
    refine ev_getI (pc := 9) dM_findOrder_9 lM_96 rfl rfl ?_
    refine ev_icmp_ge (pc := 12) (tgt := 101) dM_findOrder_12 (by decide) hs (fun hs => ?_) (fun hs => ?_)
    · exact ev_vret rfl dM_findOrder_101 hs
    · refine ev_aload_n (pc := 15) dM_findOrder_15 0 rfl rfl ?_
      refine ev_getR (pc := 16) dM_findOrder_16 lM_87 rfl rfl ?_
      refine ev_iload_n (pc := 19) dM_findOrder_19 2 rfl rfl ?_
      refine ev_iald (pc := 20) dM_findOrder_20 hs (fun r20 hs => ?_)
      refine ev_iconst (pc := 21) (v := 1) dM_findOrder_21 (by decide) ?_
      refine ev_iload_n (pc := 22) dM_findOrder_22 1 rfl rfl ?_
      refine ev_ishl (pc := 23) dM_findOrder_23 ?_
      refine ev_jn (fun (j : Hp → RO) => ∀  (h95 : Hp), Sat post (j h95) → Ev mM_findOrder 0 95 [(0, .inr 28), (1, .inl x1), (2, .inl x2_7)] [] h95 post) hs (fun h95 hs => ?_) (fun j95 hj95 hs => ?_)
      · refine ev_iinc (pc := 95) (L' := [(0, .inr 28), (1, .inl x1), (2, .inl (x2_7 + 1))]) (v := (x2_7 + 1)) dM_findOrder_95 2 rfl (congrArg (HAdd.hAdd _) (by decide)) rfl (Nat.le_of_ble_eq_true rfl) rfl ?_
        refine ev_goto (pc := 98) (tgt := 7) dM_findOrder_98 (by decide) ?_
        exact ih _ _ hs
      refine ev_icmp_ne (pc := 24) (tgt := 95) dM_findOrder_24 (by decide) hs (fun hs => ?_) (fun hs => ?_)
      · exact hj95 _ hs
      · refine ev_aload_n (pc := 27) dM_findOrder_27 0 rfl rfl ?_
        refine ev_getI (pc := 28) dM_findOrder_28 lM_181 rfl rfl ?_
        refine ev_bnd hs (fun v31 hs => ?_)
        refine ev_istore_n (pc := 31) (L' := [(0, .inr 28), (1, .inl x1), (2, .inl x2_7), (3, .inl v31)]) dM_findOrder_31 rfl rfl (Nat.le_of_ble_eq_true rfl) rfl ?_
        refine cM_findOrder_L32 (fun x3_78 h78 hs => ?_) _ _ _ hs
        refine ev_aload_n (pc := 78) dM_findOrder_78 0 rfl rfl ?_
        refine ev_getR (pc := 79) dM_findOrder_79 lM_93 rfl rfl ?_
        refine ev_iload_n (pc := 82) dM_findOrder_82 3 rfl rfl ?_
        refine ev_iload_n (pc := 83) dM_findOrder_83 2 rfl rfl ?_
        refine ev_iast (pc := 84) dM_findOrder_84 hs (fun h84 hs => ?_)
        refine ev_aload_n (pc := 85) dM_findOrder_85 0 rfl rfl ?_
        refine ev_dup (pc := 86) dM_findOrder_86 ?_
        refine ev_getI (pc := 87) dM_findOrder_87 lM_181 rfl rfl ?_
        refine ev_iconst (pc := 90) (v := 1) dM_findOrder_90 (by decide) ?_
        refine ev_iadd (pc := 91) dM_findOrder_91 ?_
        refine ev_putI (pc := 92) dM_findOrder_92 lM_181 w5_34 rfl rfl hs (fun h92 hs => ?_)
        refine ev_sub [(0, .inr 28), (1, .inl x1), (2, .inl x2_7)] [0, 1, 2] rfl ?_
        exact hj95 _ hs
set_option maxHeartbeats 4000000 in
set_option maxRecDepth 100000 in
theorem cM_findOrder {h0 : Hp} {x1 : Int32} {post : Int32 → Hp → Prop} (hs : Sat post (fM_findOrder h0 x1)) : Mt mM_findOrder 0 [.inr 28, .inl x1] h0 post := by
  refine mt_body (L := [(0, .inr 28), (1, .inl x1)]) (by decide +kernel) (Nat.le_of_ble_eq_true rfl) rfl ?_
  refine ev_aload_n (pc := 0) dM_findOrder_0 0 rfl rfl ?_
  refine ev_iconst (pc := 1) (v := 0) dM_findOrder_1 (by decide) ?_
  refine ev_putI (pc := 2) dM_findOrder_2 lM_181 w5_34 rfl rfl hs (fun h2 hs => ?_)
  refine ev_iconst (pc := 5) (v := 0) dM_findOrder_5 (by decide) ?_
  refine ev_istore_n (pc := 6) (L' := [(0, .inr 28), (1, .inl x1), (2, .inl 0)]) dM_findOrder_6 rfl rfl (Nat.le_of_ble_eq_true rfl) rfl ?_
  exact cM_findOrder_L7  _ _ _ hs
set_option maxHeartbeats 4000000 in
set_option maxRecDepth 100000 in
theorem cM_order {h0 : Hp} {x1 : Int32} {x2 : Int32} {post : Int32 → Hp → Prop} (hs : Sat post (fM_order h0 x1 x2)) : Mt mM_order 5 [.inr 28, .inl x1, .inl x2] h0 post := by
  refine mt_body (L := [(0, .inr 28), (1, .inl x1), (2, .inl x2)]) (by decide +kernel) (Nat.le_of_ble_eq_true rfl) rfl ?_
  refine ev_aload_n (pc := 0) dM_order_0 0 rfl rfl ?_
  refine ev_iload_n (pc := 1) dM_order_1 1 rfl rfl ?_
  refine ev_callV (pc := 2) (As := [.inl x1]) (S := []) (d2 := 1) dM_order_2 vM_184 zM_isPlace rfl rfl rfl rfl (Nat.le_of_ble_eq_true rfl) (Nat.le_of_ble_eq_true rfl) rfl rfl (fun p1 hz => cM_isPlace hz) hs (fun r2 h2 hs => ?_)
  refine ev_if_ne (pc := 5) (tgt := 10) dM_order_5 (by decide) hs (fun hs => ?_) (fun hs => ?_)
  · refine ev_aload_n (pc := 10) dM_order_10 0 rfl rfl ?_
    refine ev_iconst (pc := 11) (v := (-1)) dM_order_11 (by decide) ?_
    refine ev_callVv (pc := 12) (As := [.inl (-1)]) (S := []) (d2 := 4) dM_order_12 vM_168 zM_find rfl rfl rfl rfl (Nat.le_of_ble_eq_true rfl) (Nat.le_of_ble_eq_true rfl) rfl rfl (fun p1 hz => cM_find hz) hs (fun r12 h12 hs => ?_)
    refine ev_aload_n (pc := 15) dM_order_15 0 rfl rfl ?_
    refine ev_iload_n (pc := 16) dM_order_16 1 rfl rfl ?_
    refine ev_callVv (pc := 17) (As := [.inl x1]) (S := []) (d2 := 0) dM_order_17 vM_187 zM_findOrder rfl rfl rfl rfl (Nat.le_of_ble_eq_true rfl) (Nat.le_of_ble_eq_true rfl) rfl rfl (fun p1 hz => cM_findOrder hz) hs (fun r17 h17 hs => ?_)
    refine ev_iload_n (pc := 20) dM_order_20 2 rfl rfl ?_
    refine ev_iconst (pc := 21) (v := 0) dM_order_21 (by decide) ?_
    refine ev_aload_n (pc := 22) dM_order_22 0 rfl rfl ?_
    refine ev_getI (pc := 23) dM_order_23 lM_181 rfl rfl ?_
    refine ev_iconst (pc := 26) (v := 1) dM_order_26 (by decide) ?_
    refine ev_isub (pc := 27) dM_order_27 ?_
    refine ev_callS (pc := 28) (As := [.inl x2, .inl 0, .inl ((h17 28 34) - 1)]) (S := []) (d2 := 0) dM_order_28 (Or.inl vM_99) zM_in rfl (Nat.le_of_ble_eq_true rfl) (Nat.le_of_ble_eq_true rfl) rfl rfl (fun p1 hz => cM_in hz) hs (fun r28 h28 hs => ?_)
    refine ev_if_eq (pc := 31) (tgt := 43) dM_order_31 (by decide) hs (fun hs => ?_) (fun hs => ?_)
    · refine ev_bipush (pc := 43) (v := (-4)) dM_order_43 (by decide) ?_
      exact ev_iret rfl dM_order_45 hs
    · refine ev_aload_n (pc := 34) dM_order_34 0 rfl rfl ?_
      refine ev_getR (pc := 35) dM_order_35 lM_93 rfl rfl ?_
      refine ev_iload_n (pc := 38) dM_order_38 2 rfl rfl ?_
      refine ev_iald (pc := 39) dM_order_39 hs (fun r39 hs => ?_)
      refine ev_goto (pc := 40) (tgt := 45) dM_order_40 (by decide) ?_
      exact ev_iret rfl dM_order_45 hs
  · refine ev_iconst (pc := 8) (v := (-1)) dM_order_8 (by decide) ?_
    exact ev_iret rfl dM_order_9 hs
set_option maxHeartbeats 4000000 in
set_option maxRecDepth 100000 in
theorem cM_known_L35 {k113 : Int32 → Int32 → Hp → RO} {x2 : Int32} {post : Int32 → Hp → Prop} (hk113 : ∀ (y3 : Int32) (y4 : Int32) (h : Hp), Sat post (k113 y3 y4 h) → Ev mM_known 5 113 [(3, .inl y3), (4, .inl y4)] [] h post) : ∀ (n : Nat) (x3_35 : Int32) (x4_35 : Int32) (x5_35 : Int32) (h35 : Hp), Sat post (fM_known_L35 k113 x2 n x3_35 x4_35 x5_35 h35) → Ev mM_known 5 35 [(0, .inr 28), (2, .inl x2), (3, .inl x3_35), (4, .inl x4_35), (5, .inl x5_35)] [] h35 post := by
  intro n
  induction n with
  | zero =>
    intro x3_35 x4_35 x5_35 h35 hs
    exact False.elim hs
  | succ n ih =>
    intro x3_35 x4_35 x5_35 h35 hs
    refine ev_iload (pc := 35) dM_known_35 4 rfl ?_
    refine ev_aload_n (pc := 37) dM_known_37 0 rfl rfl ?_
    refine ev_getI (pc := 38) dM_known_38 lM_181 rfl rfl ?_
    refine ev_icmp_ge (pc := 41) (tgt := 113) dM_known_41 (by decide) hs (fun hs => ?_) (fun hs => ?_)
    · refine ev_sub [(3, .inl x3_35), (4, .inl x4_35)] [2, 3] rfl ?_
      exact hk113 _ _ _ hs
    · refine ev_iload_n (pc := 44) dM_known_44 2 rfl rfl ?_
      refine ev_jn (fun (j : Int32 → Hp → RO) => ∀ (s73 : Int32) (h73 : Hp), Sat post (j s73 h73) → Ev mM_known 5 73 [(0, .inr 28), (2, .inl x2), (4, .inl x4_35), (5, .inl x5_35)] [.inl s73] h73 post) hs (fun s73 h73 hs => ?_) (fun j73 hj73 hs => ?_)
      · refine ev_istore_n (pc := 73) (L' := [(0, .inr 28), (2, .inl x2), (3, .inl s73), (4, .inl x4_35), (5, .inl x5_35)]) dM_known_73 rfl rfl (Nat.le_of_ble_eq_true rfl) rfl ?_
        refine ev_iload (pc := 74) dM_known_74 3 rfl ?_
        refine ev_jn (fun (j : Int32 → Hp → RO) => ∀ (s105 : Int32) (h105 : Hp), Sat post (j s105 h105) → Ev mM_known 5 105 [(0, .inr 28), (2, .inl x2), (3, .inl s73), (5, .inl x5_35)] [.inl s105] h105 post) hs (fun s105 h105 hs => ?_) (fun j105 hj105 hs => ?_)
        · refine ev_istore (pc := 105) (L' := [(0, .inr 28), (2, .inl x2), (3, .inl s73), (4, .inl s105), (5, .inl x5_35)]) dM_known_105 rfl (Nat.le_of_ble_eq_true rfl) rfl ?_
          refine ev_iinc (pc := 107) (L' := [(0, .inr 28), (2, .inl x2), (3, .inl s73), (4, .inl s105), (5, .inl (x5_35 + 1))]) (v := (x5_35 + 1)) dM_known_107 4 rfl (congrArg (HAdd.hAdd _) (by decide)) rfl (Nat.le_of_ble_eq_true rfl) rfl ?_
          refine ev_goto (pc := 110) (tgt := 35) dM_known_110 (by decide) ?_
          exact ih _ _ _ _ hs
        refine ev_jn (fun (j : Hp → RO) => ∀  (h100 : Hp), Sat post (j h100) → Ev mM_known 5 100 [(0, .inr 28), (2, .inl x2), (3, .inl s73), (5, .inl x5_35)] [] h100 post) hs (fun h100 hs => ?_) (fun j100 hj100 hs => ?_)
        · refine ev_iconst (pc := 100) (v := 1) dM_known_100 (by decide) ?_
          refine ev_goto (pc := 101) (tgt := 105) dM_known_101 (by decide) ?_
          exact hj105 _ _ hs
        refine ev_if_ne (pc := 76) (tgt := 100) dM_known_76 (by decide) hs (fun hs => ?_) (fun hs => ?_)
        · refine ev_sub [(0, .inr 28), (2, .inl x2), (3, .inl s73), (5, .inl x5_35)] [0, 1, 2, 4] rfl ?_
          exact hj100 _ hs
        · refine ev_aload_n (pc := 79) dM_known_79 0 rfl rfl ?_
          refine ev_getR (pc := 80) dM_known_80 lM_36 rfl rfl ?_
          refine ev_bipush (pc := 83) (v := 8) dM_known_83 (by decide) ?_
          refine ev_aload_n (pc := 85) dM_known_85 0 rfl rfl ?_
          refine ev_getR (pc := 86) dM_known_86 lM_93 rfl rfl ?_
          refine ev_iload (pc := 89) dM_known_89 4 rfl ?_
          refine ev_iald (pc := 91) dM_known_91 hs (fun r91 hs => ?_)
          refine ev_imul (pc := 92) dM_known_92 ?_
          refine ev_iload_n (pc := 93) dM_known_93 1 rfl rfl ?_
          refine ev_iadd (pc := 94) dM_known_94 ?_
          refine ev_iald (pc := 95) dM_known_95 hs (fun r95 hs => ?_)
          refine ev_iconst (pc := 96) (v := 1) dM_known_96 (by decide) ?_
          refine ev_icmp_ne (pc := 97) (tgt := 104) dM_known_97 (by decide) hs (fun hs => ?_) (fun hs => ?_)
          · refine ev_iconst (pc := 104) (v := 0) dM_known_104 (by decide) ?_
            refine ev_sub [(0, .inr 28), (2, .inl x2), (3, .inl s73), (5, .inl x5_35)] [0, 1, 2, 4] rfl ?_
            exact hj105 _ _ hs
          · refine ev_sub [(0, .inr 28), (2, .inl x2), (3, .inl s73), (5, .inl x5_35)] [0, 1, 2, 4] rfl ?_
            exact hj100 _ hs
      refine ev_jn (fun (j : Hp → RO) => ∀  (h68 : Hp), Sat post (j h68) → Ev mM_known 5 68 [(0, .inr 28), (2, .inl x2), (4, .inl x4_35), (5, .inl x5_35)] [] h68 post) hs (fun h68 hs => ?_) (fun j68 hj68 hs => ?_)
      · refine ev_iconst (pc := 68) (v := 1) dM_known_68 (by decide) ?_
        refine ev_goto (pc := 69) (tgt := 73) dM_known_69 (by decide) ?_
        exact hj73 _ _ hs
      refine ev_if_ne (pc := 45) (tgt := 68) dM_known_45 (by decide) hs (fun hs => ?_) (fun hs => ?_)
      · refine ev_sub [(0, .inr 28), (2, .inl x2), (4, .inl x4_35), (5, .inl x5_35)] [0, 1, 3, 4] rfl ?_
        exact hj68 _ hs
      · refine ev_aload_n (pc := 48) dM_known_48 0 rfl rfl ?_
        refine ev_getR (pc := 49) dM_known_49 lM_36 rfl rfl ?_
        refine ev_bipush (pc := 52) (v := 8) dM_known_52 (by decide) ?_
        refine ev_aload_n (pc := 54) dM_known_54 0 rfl rfl ?_
        refine ev_getR (pc := 55) dM_known_55 lM_93 rfl rfl ?_
        refine ev_iload (pc := 58) dM_known_58 4 rfl ?_
        refine ev_iald (pc := 60) dM_known_60 hs (fun r60 hs => ?_)
        refine ev_imul (pc := 61) dM_known_61 ?_
        refine ev_iload_n (pc := 62) dM_known_62 1 rfl rfl ?_
        refine ev_iadd (pc := 63) dM_known_63 ?_
        refine ev_iald (pc := 64) dM_known_64 hs (fun r64 hs => ?_)
        refine ev_if_ne (pc := 65) (tgt := 72) dM_known_65 (by decide) hs (fun hs => ?_) (fun hs => ?_)
        · refine ev_iconst (pc := 72) (v := 0) dM_known_72 (by decide) ?_
          refine ev_sub [(0, .inr 28), (2, .inl x2), (4, .inl x4_35), (5, .inl x5_35)] [0, 1, 3, 4] rfl ?_
          exact hj73 _ _ hs
        · refine ev_sub [(0, .inr 28), (2, .inl x2), (4, .inl x4_35), (5, .inl x5_35)] [0, 1, 3, 4] rfl ?_
          exact hj68 _ hs
set_option maxHeartbeats 4000000 in
set_option maxRecDepth 100000 in
theorem cM_known {h0 : Hp} {x1 : Int32} {x2 : Int32} {post : Int32 → Hp → Prop} (hs : Sat post (fM_known h0 x1 x2)) : Mt mM_known 5 [.inr 28, .inl x1, .inl x2] h0 post := by
  refine mt_body (L := [(0, .inr 28), (1, .inl x1), (2, .inl x2)]) (by decide +kernel) (Nat.le_of_ble_eq_true rfl) rfl ?_
  refine ev_aload_n (pc := 0) dM_known_0 0 rfl rfl ?_
  refine ev_iload_n (pc := 1) dM_known_1 1 rfl rfl ?_
  refine ev_callV (pc := 2) (As := [.inl x1]) (S := []) (d2 := 1) dM_known_2 vM_184 zM_isPlace rfl rfl rfl rfl (Nat.le_of_ble_eq_true rfl) (Nat.le_of_ble_eq_true rfl) rfl rfl (fun p1 hz => cM_isPlace hz) hs (fun r2 h2 hs => ?_)
  refine ev_if_eq (pc := 5) (tgt := 15) dM_known_5 (by decide) hs (fun hs => ?_) (fun hs => ?_)
  · refine ev_iconst (pc := 15) (v := (-1)) dM_known_15 (by decide) ?_
    exact ev_iret rfl dM_known_16 hs
  · refine ev_iload_n (pc := 8) dM_known_8 2 rfl rfl ?_
    refine ev_callS (pc := 9) (As := [.inl x2]) (S := []) (d2 := 1) dM_known_9 (Or.inl vM_114) zM_isMark rfl (Nat.le_of_ble_eq_true rfl) (Nat.le_of_ble_eq_true rfl) rfl rfl (fun p1 hz => cM_isMark hz) hs (fun r9 h9 hs => ?_)
    refine ev_if_ne (pc := 12) (tgt := 17) dM_known_12 (by decide) hs (fun hs => ?_) (fun hs => ?_)
    · refine ev_aload_n (pc := 17) dM_known_17 0 rfl rfl ?_
      refine ev_iconst (pc := 18) (v := (-1)) dM_known_18 (by decide) ?_
      refine ev_callVv (pc := 19) (As := [.inl (-1)]) (S := []) (d2 := 4) dM_known_19 vM_168 zM_find rfl rfl rfl rfl (Nat.le_of_ble_eq_true rfl) (Nat.le_of_ble_eq_true rfl) rfl rfl (fun p1 hz => cM_find hz) hs (fun r19 h19 hs => ?_)
      refine ev_aload_n (pc := 22) dM_known_22 0 rfl rfl ?_
      refine ev_iload_n (pc := 23) dM_known_23 1 rfl rfl ?_
      refine ev_callVv (pc := 24) (As := [.inl x1]) (S := []) (d2 := 0) dM_known_24 vM_187 zM_findOrder rfl rfl rfl rfl (Nat.le_of_ble_eq_true rfl) (Nat.le_of_ble_eq_true rfl) rfl rfl (fun p1 hz => cM_findOrder hz) hs (fun r24 h24 hs => ?_)
      refine ev_iconst (pc := 27) (v := 0) dM_known_27 (by decide) ?_
      refine ev_istore_n (pc := 28) (L' := [(0, .inr 28), (1, .inl x1), (2, .inl x2), (3, .inl 0)]) dM_known_28 rfl rfl (Nat.le_of_ble_eq_true rfl) rfl ?_
      refine ev_iconst (pc := 29) (v := 0) dM_known_29 (by decide) ?_
      refine ev_istore (pc := 30) (L' := [(0, .inr 28), (1, .inl x1), (2, .inl x2), (3, .inl 0), (4, .inl 0)]) dM_known_30 rfl (Nat.le_of_ble_eq_true rfl) rfl ?_
      refine ev_iconst (pc := 32) (v := 0) dM_known_32 (by decide) ?_
      refine ev_istore (pc := 33) (L' := [(0, .inr 28), (1, .inl x1), (2, .inl x2), (3, .inl 0), (4, .inl 0), (5, .inl 0)]) dM_known_33 rfl (Nat.le_of_ble_eq_true rfl) rfl ?_
      refine ev_sub [(0, .inr 28), (2, .inl x2), (3, .inl 0), (4, .inl 0), (5, .inl 0)] [0, 2, 3, 4, 5] rfl ?_
      refine cM_known_L35 (fun x3_113 x4_113 h113 hs => ?_) _ _ _ _ _ hs
      refine ev_iload_n (pc := 113) dM_known_113 0 rfl rfl ?_
      refine ev_if_eq (pc := 114) (tgt := 130) dM_known_114 (by decide) hs (fun hs => ?_) (fun hs => ?_)
      · refine ev_iload (pc := 130) dM_known_130 1 rfl ?_
        refine ev_if_eq (pc := 132) (tgt := 139) dM_known_132 (by decide) hs (fun hs => ?_) (fun hs => ?_)
        · refine ev_iconst (pc := 139) (v := 2) dM_known_139 (by decide) ?_
          exact ev_iret rfl dM_known_140 hs
        · refine ev_iconst (pc := 135) (v := 1) dM_known_135 (by decide) ?_
          refine ev_goto (pc := 136) (tgt := 140) dM_known_136 (by decide) ?_
          exact ev_iret rfl dM_known_140 hs
      · refine ev_iload (pc := 117) dM_known_117 1 rfl ?_
        refine ev_if_eq (pc := 119) (tgt := 126) dM_known_119 (by decide) hs (fun hs => ?_) (fun hs => ?_)
        · refine ev_iconst (pc := 126) (v := 0) dM_known_126 (by decide) ?_
          refine ev_goto (pc := 127) (tgt := 140) dM_known_127 (by decide) ?_
          exact ev_iret rfl dM_known_140 hs
        · refine ev_iconst (pc := 122) (v := 3) dM_known_122 (by decide) ?_
          refine ev_goto (pc := 123) (tgt := 140) dM_known_123 (by decide) ?_
          exact ev_iret rfl dM_known_140 hs
    · refine ev_iconst (pc := 15) (v := (-1)) dM_known_15 (by decide) ?_
      exact ev_iret rfl dM_known_16 hs
set_option maxHeartbeats 4000000 in
set_option maxRecDepth 100000 in
theorem cM_changesOf_L7 {x1 : Int32} {post : Int32 → Hp → Prop}  : ∀ (n : Nat) (x2_7 : Int32) (x3_7 : Int32) (x4_7 : Int32) (h7 : Hp), Sat post (fM_changesOf_L7 x1 n x2_7 x3_7 x4_7 h7) → Ev mM_changesOf 0 7 [(0, .inr 28), (1, .inl x1), (2, .inl x2_7), (3, .inl x3_7), (4, .inl x4_7)] [] h7 post := by
  intro n
  induction n with
  | zero =>
    intro x2_7 x3_7 x4_7 h7 hs
    exact False.elim hs
  | succ n ih =>
    intro x2_7 x3_7 x4_7 h7 hs
    refine ev_iload (pc := 7) dM_changesOf_7 4 rfl ?_
    refine ev_aload_n (pc := 9) dM_changesOf_9 0 rfl rfl ?_
    refine ev_getI (pc := 10) dM_changesOf_10 lM_181 rfl rfl ?_
    refine ev_icmp_ge (pc := 13) (tgt := 79) dM_changesOf_13 (by decide) hs (fun hs => ?_) (fun hs => ?_)
    · refine ev_iload_n (pc := 79) dM_changesOf_79 2 rfl rfl ?_
      exact ev_iret rfl dM_changesOf_80 hs
    · refine ev_aload_n (pc := 16) dM_changesOf_16 0 rfl rfl ?_
      refine ev_getR (pc := 17) dM_changesOf_17 lM_36 rfl rfl ?_
      refine ev_bipush (pc := 20) (v := 8) dM_changesOf_20 (by decide) ?_
      refine ev_aload_n (pc := 22) dM_changesOf_22 0 rfl rfl ?_
      refine ev_getR (pc := 23) dM_changesOf_23 lM_93 rfl rfl ?_
      refine ev_iload (pc := 26) dM_changesOf_26 4 rfl ?_
      refine ev_iald (pc := 28) dM_changesOf_28 hs (fun r28 hs => ?_)
      refine ev_imul (pc := 29) dM_changesOf_29 ?_
      refine ev_iload_n (pc := 30) dM_changesOf_30 1 rfl rfl ?_
      refine ev_iadd (pc := 31) dM_changesOf_31 ?_
      refine ev_iald (pc := 32) dM_changesOf_32 hs (fun r32 hs => ?_)
      refine ev_istore (pc := 33) (L' := [(0, .inr 28), (1, .inl x1), (2, .inl x2_7), (3, .inl x3_7), (4, .inl x4_7), (5, .inl r32)]) dM_changesOf_33 rfl (Nat.le_of_ble_eq_true rfl) rfl ?_
      refine ev_iload_n (pc := 35) dM_changesOf_35 2 rfl rfl ?_
      refine ev_iload (pc := 36) dM_changesOf_36 5 rfl ?_
      refine ev_iconst (pc := 38) (v := 2) dM_changesOf_38 (by decide) ?_
      refine ev_jn (fun (j : Int32 → Hp → RO) => ∀ (s58 : Int32) (h58 : Hp), Sat post (j s58 h58) → Ev mM_changesOf 0 58 [(0, .inr 28), (1, .inl x1), (3, .inl x3_7), (4, .inl x4_7), (5, .inl r32)] [.inl s58, .inl x2_7] h58 post) hs (fun s58 h58 hs => ?_) (fun j58 hj58 hs => ?_)
      · refine ev_iadd (pc := 58) dM_changesOf_58 ?_
        refine ev_bnd hs (fun v59 hs => ?_)
        refine ev_istore_n (pc := 59) (L' := [(0, .inr 28), (1, .inl x1), (2, .inl v59), (3, .inl x3_7), (4, .inl x4_7), (5, .inl r32)]) dM_changesOf_59 rfl rfl (Nat.le_of_ble_eq_true rfl) rfl ?_
        refine ev_iload (pc := 60) dM_changesOf_60 5 rfl ?_
        refine ev_iconst (pc := 62) (v := 2) dM_changesOf_62 (by decide) ?_
        refine ev_jn (fun (j : Int32 → Hp → RO) => ∀ (s72 : Int32) (h72 : Hp), Sat post (j s72 h72) → Ev mM_changesOf 0 72 [(0, .inr 28), (1, .inl x1), (2, .inl v59), (4, .inl x4_7)] [.inl s72] h72 post) hs (fun s72 h72 hs => ?_) (fun j72 hj72 hs => ?_)
        · refine ev_istore_n (pc := 72) (L' := [(0, .inr 28), (1, .inl x1), (2, .inl v59), (3, .inl s72), (4, .inl x4_7)]) dM_changesOf_72 rfl rfl (Nat.le_of_ble_eq_true rfl) rfl ?_
          refine ev_iinc (pc := 73) (L' := [(0, .inr 28), (1, .inl x1), (2, .inl v59), (3, .inl s72), (4, .inl (x4_7 + 1))]) (v := (x4_7 + 1)) dM_changesOf_73 4 rfl (congrArg (HAdd.hAdd _) (by decide)) rfl (Nat.le_of_ble_eq_true rfl) rfl ?_
          refine ev_goto (pc := 76) (tgt := 7) dM_changesOf_76 (by decide) ?_
          exact ih _ _ _ _ hs
        refine ev_icmp_ge (pc := 63) (tgt := 71) dM_changesOf_63 (by decide) hs (fun hs => ?_) (fun hs => ?_)
        · refine ev_iload_n (pc := 71) dM_changesOf_71 3 rfl rfl ?_
          refine ev_sub [(0, .inr 28), (1, .inl x1), (2, .inl v59), (4, .inl x4_7)] [0, 1, 2, 4] rfl ?_
          exact hj72 _ _ hs
        · refine ev_iload (pc := 66) dM_changesOf_66 5 rfl ?_
          refine ev_goto (pc := 68) (tgt := 72) dM_changesOf_68 (by decide) ?_
          refine ev_sub [(0, .inr 28), (1, .inl x1), (2, .inl v59), (4, .inl x4_7)] [0, 1, 2, 4] rfl ?_
          exact hj72 _ _ hs
      refine ev_jn (fun (j : Hp → RO) => ∀  (h57 : Hp), Sat post (j h57) → Ev mM_changesOf 0 57 [(0, .inr 28), (1, .inl x1), (3, .inl x3_7), (4, .inl x4_7), (5, .inl r32)] [.inl x2_7] h57 post) hs (fun h57 hs => ?_) (fun j57 hj57 hs => ?_)
      · refine ev_iconst (pc := 57) (v := 0) dM_changesOf_57 (by decide) ?_
        exact hj58 _ _ hs
      refine ev_icmp_ge (pc := 39) (tgt := 57) dM_changesOf_39 (by decide) hs (fun hs => ?_) (fun hs => ?_)
      · refine ev_sub [(0, .inr 28), (1, .inl x1), (3, .inl x3_7), (4, .inl x4_7), (5, .inl r32)] [0, 1, 3, 4, 5] rfl ?_
        exact hj57 _ hs
      · refine ev_iload_n (pc := 42) dM_changesOf_42 3 rfl rfl ?_
        refine ev_iconst (pc := 43) (v := 2) dM_changesOf_43 (by decide) ?_
        refine ev_icmp_ge (pc := 44) (tgt := 57) dM_changesOf_44 (by decide) hs (fun hs => ?_) (fun hs => ?_)
        · refine ev_sub [(0, .inr 28), (1, .inl x1), (3, .inl x3_7), (4, .inl x4_7), (5, .inl r32)] [0, 1, 3, 4, 5] rfl ?_
          exact hj57 _ hs
        · refine ev_iload (pc := 47) dM_changesOf_47 5 rfl ?_
          refine ev_iload_n (pc := 49) dM_changesOf_49 3 rfl rfl ?_
          refine ev_icmp_eq (pc := 50) (tgt := 57) dM_changesOf_50 (by decide) hs (fun hs => ?_) (fun hs => ?_)
          · refine ev_sub [(0, .inr 28), (1, .inl x1), (3, .inl x3_7), (4, .inl x4_7), (5, .inl r32)] [0, 1, 3, 4, 5] rfl ?_
            exact hj57 _ hs
          · refine ev_iconst (pc := 53) (v := 1) dM_changesOf_53 (by decide) ?_
            refine ev_goto (pc := 54) (tgt := 58) dM_changesOf_54 (by decide) ?_
            refine ev_sub [(0, .inr 28), (1, .inl x1), (3, .inl x3_7), (4, .inl x4_7), (5, .inl r32)] [0, 1, 3, 4, 5] rfl ?_
            exact hj58 _ _ hs
set_option maxHeartbeats 4000000 in
set_option maxRecDepth 100000 in
theorem cM_changesOf {h0 : Hp} {x1 : Int32} {post : Int32 → Hp → Prop} (hs : Sat post (fM_changesOf h0 x1)) : Mt mM_changesOf 0 [.inr 28, .inl x1] h0 post := by
  refine mt_body (L := [(0, .inr 28), (1, .inl x1)]) (by decide +kernel) (Nat.le_of_ble_eq_true rfl) rfl ?_
  refine ev_iconst (pc := 0) (v := 0) dM_changesOf_0 (by decide) ?_
  refine ev_istore_n (pc := 1) (L' := [(0, .inr 28), (1, .inl x1), (2, .inl 0)]) dM_changesOf_1 rfl rfl (Nat.le_of_ble_eq_true rfl) rfl ?_
  refine ev_iconst (pc := 2) (v := 2) dM_changesOf_2 (by decide) ?_
  refine ev_istore_n (pc := 3) (L' := [(0, .inr 28), (1, .inl x1), (2, .inl 0), (3, .inl 2)]) dM_changesOf_3 rfl rfl (Nat.le_of_ble_eq_true rfl) rfl ?_
  refine ev_iconst (pc := 4) (v := 0) dM_changesOf_4 (by decide) ?_
  refine ev_istore (pc := 5) (L' := [(0, .inr 28), (1, .inl x1), (2, .inl 0), (3, .inl 2), (4, .inl 0)]) dM_changesOf_5 rfl (Nat.le_of_ble_eq_true rfl) rfl ?_
  exact cM_changesOf_L7  _ _ _ _ _ hs
set_option maxHeartbeats 4000000 in
set_option maxRecDepth 100000 in
theorem cM_changes {h0 : Hp} {x1 : Int32} {x2 : Int32} {post : Int32 → Hp → Prop} (hs : Sat post (fM_changes h0 x1 x2)) : Mt mM_changes 5 [.inr 28, .inl x1, .inl x2] h0 post := by
  refine mt_body (L := [(0, .inr 28), (1, .inl x1), (2, .inl x2)]) (by decide +kernel) (Nat.le_of_ble_eq_true rfl) rfl ?_
  refine ev_aload_n (pc := 0) dM_changes_0 0 rfl rfl ?_
  refine ev_iload_n (pc := 1) dM_changes_1 1 rfl rfl ?_
  refine ev_callV (pc := 2) (As := [.inl x1]) (S := []) (d2 := 1) dM_changes_2 vM_184 zM_isPlace rfl rfl rfl rfl (Nat.le_of_ble_eq_true rfl) (Nat.le_of_ble_eq_true rfl) rfl rfl (fun p1 hz => cM_isPlace hz) hs (fun r2 h2 hs => ?_)
  refine ev_if_eq (pc := 5) (tgt := 15) dM_changes_5 (by decide) hs (fun hs => ?_) (fun hs => ?_)
  · refine ev_iconst (pc := 15) (v := (-1)) dM_changes_15 (by decide) ?_
    exact ev_iret rfl dM_changes_16 hs
  · refine ev_iload_n (pc := 8) dM_changes_8 2 rfl rfl ?_
    refine ev_callS (pc := 9) (As := [.inl x2]) (S := []) (d2 := 1) dM_changes_9 (Or.inl vM_114) zM_isMark rfl (Nat.le_of_ble_eq_true rfl) (Nat.le_of_ble_eq_true rfl) rfl rfl (fun p1 hz => cM_isMark hz) hs (fun r9 h9 hs => ?_)
    refine ev_if_ne (pc := 12) (tgt := 17) dM_changes_12 (by decide) hs (fun hs => ?_) (fun hs => ?_)
    · refine ev_aload_n (pc := 17) dM_changes_17 0 rfl rfl ?_
      refine ev_iconst (pc := 18) (v := (-1)) dM_changes_18 (by decide) ?_
      refine ev_callVv (pc := 19) (As := [.inl (-1)]) (S := []) (d2 := 4) dM_changes_19 vM_168 zM_find rfl rfl rfl rfl (Nat.le_of_ble_eq_true rfl) (Nat.le_of_ble_eq_true rfl) rfl rfl (fun p1 hz => cM_find hz) hs (fun r19 h19 hs => ?_)
      refine ev_aload_n (pc := 22) dM_changes_22 0 rfl rfl ?_
      refine ev_iload_n (pc := 23) dM_changes_23 1 rfl rfl ?_
      refine ev_callVv (pc := 24) (As := [.inl x1]) (S := []) (d2 := 0) dM_changes_24 vM_187 zM_findOrder rfl rfl rfl rfl (Nat.le_of_ble_eq_true rfl) (Nat.le_of_ble_eq_true rfl) rfl rfl (fun p1 hz => cM_findOrder hz) hs (fun r24 h24 hs => ?_)
      refine ev_aload_n (pc := 27) dM_changes_27 0 rfl rfl ?_
      refine ev_iload_n (pc := 28) dM_changes_28 2 rfl rfl ?_
      refine ev_callV (pc := 29) (As := [.inl x2]) (S := []) (d2 := 0) dM_changes_29 vM_190 zM_changesOf rfl rfl rfl rfl (Nat.le_of_ble_eq_true rfl) (Nat.le_of_ble_eq_true rfl) rfl rfl (fun p1 hz => cM_changesOf hz) hs (fun r29 h29 hs => ?_)
      exact ev_iret rfl dM_changes_32 hs
    · refine ev_iconst (pc := 15) (v := (-1)) dM_changes_15 (by decide) ?_
      exact ev_iret rfl dM_changes_16 hs
set_option maxHeartbeats 4000000 in
set_option maxRecDepth 100000 in
theorem cM_breaks_L24  {post : Int32 → Hp → Prop}  : ∀ (n : Nat) (x2_24 : Int32) (x3_24 : Int32) (h24 : Hp), Sat post (fM_breaks_L24 n x2_24 x3_24 h24) → Ev mM_breaks 5 24 [(0, .inr 28), (2, .inl x2_24), (3, .inl x3_24)] [] h24 post := by
  intro n
  induction n with
  | zero =>
    intro x2_24 x3_24 h24 hs
    exact False.elim hs
  | succ n ih =>
    intro x2_24 x3_24 h24 hs
    refine ev_iload_n (pc := 24) dM_breaks_24 2 rfl rfl ?_
    refine ev_bipush (pc := 25) (v := 8) dM_breaks_25 (by decide) ?_
    refine ev_icmp_ge (pc := 27) (tgt := 60) dM_breaks_27 (by decide) hs (fun hs => ?_) (fun hs => ?_)
    · refine ev_iload_n (pc := 60) dM_breaks_60 1 rfl rfl ?_
      exact ev_iret rfl dM_breaks_61 hs
    · refine ev_aload_n (pc := 30) dM_breaks_30 0 rfl rfl ?_
      refine ev_iload_n (pc := 31) dM_breaks_31 2 rfl rfl ?_
      refine ev_callV (pc := 32) (As := [.inl x3_24]) (S := []) (d2 := 0) dM_breaks_32 vM_190 zM_changesOf rfl rfl rfl rfl (Nat.le_of_ble_eq_true rfl) (Nat.le_of_ble_eq_true rfl) rfl rfl (fun p1 hz => cM_changesOf hz) hs (fun r32 h32 hs => ?_)
      refine ev_istore (pc := 35) (L' := [(0, .inr 28), (2, .inl x2_24), (3, .inl x3_24), (4, .inl r32)]) dM_breaks_35 rfl (Nat.le_of_ble_eq_true rfl) rfl ?_
      refine ev_iload_n (pc := 37) dM_breaks_37 1 rfl rfl ?_
      refine ev_iload (pc := 38) dM_breaks_38 3 rfl ?_
      refine ev_iconst (pc := 40) (v := 2) dM_breaks_40 (by decide) ?_
      refine ev_jn (fun (j : Int32 → Hp → RO) => ∀ (s52 : Int32) (h52 : Hp), Sat post (j s52 h52) → Ev mM_breaks 5 52 [(0, .inr 28), (3, .inl x3_24)] [.inl s52, .inl x2_24] h52 post) hs (fun s52 h52 hs => ?_) (fun j52 hj52 hs => ?_)
      · refine ev_iadd (pc := 52) dM_breaks_52 ?_
        refine ev_bnd hs (fun v53 hs => ?_)
        refine ev_istore_n (pc := 53) (L' := [(0, .inr 28), (2, .inl v53), (3, .inl x3_24)]) dM_breaks_53 rfl rfl (Nat.le_of_ble_eq_true rfl) rfl ?_
        refine ev_iinc (pc := 54) (L' := [(0, .inr 28), (2, .inl v53), (3, .inl (x3_24 + 1))]) (v := (x3_24 + 1)) dM_breaks_54 2 rfl (congrArg (HAdd.hAdd _) (by decide)) rfl (Nat.le_of_ble_eq_true rfl) rfl ?_
        refine ev_goto (pc := 57) (tgt := 24) dM_breaks_57 (by decide) ?_
        exact ih _ _ _ hs
      refine ev_icmp_le (pc := 41) (tgt := 51) dM_breaks_41 (by decide) hs (fun hs => ?_) (fun hs => ?_)
      · refine ev_iconst (pc := 51) (v := 0) dM_breaks_51 (by decide) ?_
        refine ev_sub [(0, .inr 28), (3, .inl x3_24)] [0, 2] rfl ?_
        exact hj52 _ _ hs
      · refine ev_iload (pc := 44) dM_breaks_44 3 rfl ?_
        refine ev_iconst (pc := 46) (v := 2) dM_breaks_46 (by decide) ?_
        refine ev_isub (pc := 47) dM_breaks_47 ?_
        refine ev_goto (pc := 48) (tgt := 52) dM_breaks_48 (by decide) ?_
        refine ev_sub [(0, .inr 28), (3, .inl x3_24)] [0, 2] rfl ?_
        exact hj52 _ _ hs
set_option maxHeartbeats 4000000 in
set_option maxRecDepth 100000 in
theorem cM_breaks {h0 : Hp} {x1 : Int32} {post : Int32 → Hp → Prop} (hs : Sat post (fM_breaks h0 x1)) : Mt mM_breaks 5 [.inr 28, .inl x1] h0 post := by
  refine mt_body (L := [(0, .inr 28), (1, .inl x1)]) (by decide +kernel) (Nat.le_of_ble_eq_true rfl) rfl ?_
  refine ev_aload_n (pc := 0) dM_breaks_0 0 rfl rfl ?_
  refine ev_iload_n (pc := 1) dM_breaks_1 1 rfl rfl ?_
  refine ev_callV (pc := 2) (As := [.inl x1]) (S := []) (d2 := 1) dM_breaks_2 vM_184 zM_isPlace rfl rfl rfl rfl (Nat.le_of_ble_eq_true rfl) (Nat.le_of_ble_eq_true rfl) rfl rfl (fun p1 hz => cM_isPlace hz) hs (fun r2 h2 hs => ?_)
  refine ev_if_ne (pc := 5) (tgt := 10) dM_breaks_5 (by decide) hs (fun hs => ?_) (fun hs => ?_)
  · refine ev_aload_n (pc := 10) dM_breaks_10 0 rfl rfl ?_
    refine ev_iconst (pc := 11) (v := (-1)) dM_breaks_11 (by decide) ?_
    refine ev_callVv (pc := 12) (As := [.inl (-1)]) (S := []) (d2 := 4) dM_breaks_12 vM_168 zM_find rfl rfl rfl rfl (Nat.le_of_ble_eq_true rfl) (Nat.le_of_ble_eq_true rfl) rfl rfl (fun p1 hz => cM_find hz) hs (fun r12 h12 hs => ?_)
    refine ev_aload_n (pc := 15) dM_breaks_15 0 rfl rfl ?_
    refine ev_iload_n (pc := 16) dM_breaks_16 1 rfl rfl ?_
    refine ev_callVv (pc := 17) (As := [.inl x1]) (S := []) (d2 := 0) dM_breaks_17 vM_187 zM_findOrder rfl rfl rfl rfl (Nat.le_of_ble_eq_true rfl) (Nat.le_of_ble_eq_true rfl) rfl rfl (fun p1 hz => cM_findOrder hz) hs (fun r17 h17 hs => ?_)
    refine ev_iconst (pc := 20) (v := 0) dM_breaks_20 (by decide) ?_
    refine ev_istore_n (pc := 21) (L' := [(0, .inr 28), (1, .inl x1), (2, .inl 0)]) dM_breaks_21 rfl rfl (Nat.le_of_ble_eq_true rfl) rfl ?_
    refine ev_iconst (pc := 22) (v := 0) dM_breaks_22 (by decide) ?_
    refine ev_istore_n (pc := 23) (L' := [(0, .inr 28), (1, .inl x1), (2, .inl 0), (3, .inl 0)]) dM_breaks_23 rfl rfl (Nat.le_of_ble_eq_true rfl) rfl ?_
    refine ev_sub [(0, .inr 28), (2, .inl 0), (3, .inl 0)] [0, 2, 3] rfl ?_
    exact cM_breaks_L24  _ _ _ _ hs
  · refine ev_iconst (pc := 8) (v := (-1)) dM_breaks_8 (by decide) ?_
    exact ev_iret rfl dM_breaks_9 hs
set_option maxHeartbeats 4000000 in
set_option maxRecDepth 100000 in
theorem cM_inverted_L35 {k126 : Int32 → Hp → RO} {x2 : Int32} {x3 : Int32} {post : Int32 → Hp → Prop} (hk126 : ∀ (y1 : Int32) (h : Hp), Sat post (k126 y1 h) → Ev mM_inverted 5 126 [(0, .inr 28), (1, .inl y1), (2, .inl x2), (3, .inl x3)] [] h post) : ∀ (n : Nat) (x1_35 : Int32) (x4_35 : Int32) (h35 : Hp), Sat post (fM_inverted_L35 k126 x2 x3 n x1_35 x4_35 h35) → Ev mM_inverted 5 35 [(0, .inr 28), (1, .inl x1_35), (2, .inl x2), (3, .inl x3), (4, .inl x4_35)] [] h35 post := by
  intro n
  induction n with
  | zero =>
    intro x1_35 x4_35 h35 hs
    exact False.elim hs
  | succ n ih =>
    intro x1_35 x4_35 h35 hs
    refine ev_iload (pc := 35) dM_inverted_35 4 rfl ?_
    refine ev_iload_n (pc := 37) dM_inverted_37 3 rfl rfl ?_
    refine ev_icmp_ge (pc := 38) (tgt := 126) dM_inverted_38 (by decide) hs (fun hs => ?_) (fun hs => ?_)
    · refine ev_sub [(0, .inr 28), (1, .inl x1_35), (2, .inl x2), (3, .inl x3)] [0, 1, 2, 3] rfl ?_
      exact hk126 _ _ hs
    · refine ev_aload_n (pc := 41) dM_inverted_41 0 rfl rfl ?_
      refine ev_getR (pc := 42) dM_inverted_42 lM_93 rfl rfl ?_
      refine ev_iload (pc := 45) dM_inverted_45 4 rfl ?_
      refine ev_iald (pc := 47) dM_inverted_47 hs (fun r47 hs => ?_)
      refine ev_istore (pc := 48) (L' := [(0, .inr 28), (1, .inl x1_35), (2, .inl x2), (3, .inl x3), (4, .inl x4_35), (5, .inl r47)]) dM_inverted_48 rfl (Nat.le_of_ble_eq_true rfl) rfl ?_
      refine ev_aload_n (pc := 50) dM_inverted_50 0 rfl rfl ?_
      refine ev_getR (pc := 51) dM_inverted_51 lM_93 rfl rfl ?_
      refine ev_iload_n (pc := 54) dM_inverted_54 3 rfl rfl ?_
      refine ev_iald (pc := 55) dM_inverted_55 hs (fun r55 hs => ?_)
      refine ev_istore (pc := 56) (L' := [(0, .inr 28), (1, .inl x1_35), (2, .inl x2), (3, .inl x3), (4, .inl x4_35), (5, .inl r47), (6, .inl r55)]) dM_inverted_56 rfl (Nat.le_of_ble_eq_true rfl) rfl ?_
      refine ev_iload_n (pc := 58) dM_inverted_58 1 rfl rfl ?_
      refine ev_aload_n (pc := 59) dM_inverted_59 0 rfl rfl ?_
      refine ev_getR (pc := 60) dM_inverted_60 lM_45 rfl rfl ?_
      refine ev_iload (pc := 63) dM_inverted_63 5 rfl ?_
      refine ev_iald (pc := 65) dM_inverted_65 hs (fun r65 hs => ?_)
      refine ev_aload_n (pc := 66) dM_inverted_66 0 rfl rfl ?_
      refine ev_getR (pc := 67) dM_inverted_67 lM_45 rfl rfl ?_
      refine ev_iload (pc := 70) dM_inverted_70 6 rfl ?_
      refine ev_iald (pc := 72) dM_inverted_72 hs (fun r72 hs => ?_)
      refine ev_jn (fun (j : Int32 → Hp → RO) => ∀ (s118 : Int32) (h118 : Hp), Sat post (j s118 h118) → Ev mM_inverted 5 118 [(0, .inr 28), (2, .inl x2), (3, .inl x3), (4, .inl x4_35)] [.inl s118, .inl x1_35] h118 post) hs (fun s118 h118 hs => ?_) (fun j118 hj118 hs => ?_)
      · refine ev_iadd (pc := 118) dM_inverted_118 ?_
        refine ev_bnd hs (fun v119 hs => ?_)
        refine ev_istore_n (pc := 119) (L' := [(0, .inr 28), (1, .inl v119), (2, .inl x2), (3, .inl x3), (4, .inl x4_35)]) dM_inverted_119 rfl rfl (Nat.le_of_ble_eq_true rfl) rfl ?_
        refine ev_iinc (pc := 120) (L' := [(0, .inr 28), (1, .inl v119), (2, .inl x2), (3, .inl x3), (4, .inl (x4_35 + 1))]) (v := (x4_35 + 1)) dM_inverted_120 4 rfl (congrArg (HAdd.hAdd _) (by decide)) rfl (Nat.le_of_ble_eq_true rfl) rfl ?_
        refine ev_goto (pc := 123) (tgt := 35) dM_inverted_123 (by decide) ?_
        exact ih _ _ _ hs
      refine ev_jn (fun (j : Hp → RO) => ∀  (h117 : Hp), Sat post (j h117) → Ev mM_inverted 5 117 [(0, .inr 28), (2, .inl x2), (3, .inl x3), (4, .inl x4_35)] [.inl x1_35] h117 post) hs (fun h117 hs => ?_) (fun j117 hj117 hs => ?_)
      · refine ev_iconst (pc := 117) (v := 0) dM_inverted_117 (by decide) ?_
        exact hj118 _ _ hs
      refine ev_icmp_ge (pc := 73) (tgt := 117) dM_inverted_73 (by decide) hs (fun hs => ?_) (fun hs => ?_)
      · refine ev_sub [(0, .inr 28), (2, .inl x2), (3, .inl x3), (4, .inl x4_35)] [0, 2, 3, 4] rfl ?_
        exact hj117 _ hs
      · refine ev_aload_n (pc := 76) dM_inverted_76 0 rfl rfl ?_
        refine ev_getR (pc := 77) dM_inverted_77 lM_48 rfl rfl ?_
        refine ev_iload (pc := 80) dM_inverted_80 5 rfl ?_
        refine ev_iald (pc := 82) dM_inverted_82 hs (fun r82 hs => ?_)
        refine ev_if_lt (pc := 83) (tgt := 117) dM_inverted_83 (by decide) hs (fun hs => ?_) (fun hs => ?_)
        · refine ev_sub [(0, .inr 28), (2, .inl x2), (3, .inl x3), (4, .inl x4_35)] [0, 2, 3, 4] rfl ?_
          exact hj117 _ hs
        · refine ev_aload_n (pc := 86) dM_inverted_86 0 rfl rfl ?_
          refine ev_getR (pc := 87) dM_inverted_87 lM_48 rfl rfl ?_
          refine ev_iload (pc := 90) dM_inverted_90 6 rfl ?_
          refine ev_iald (pc := 92) dM_inverted_92 hs (fun r92 hs => ?_)
          refine ev_if_lt (pc := 93) (tgt := 117) dM_inverted_93 (by decide) hs (fun hs => ?_) (fun hs => ?_)
          · refine ev_sub [(0, .inr 28), (2, .inl x2), (3, .inl x3), (4, .inl x4_35)] [0, 2, 3, 4] rfl ?_
            exact hj117 _ hs
          · refine ev_aload_n (pc := 96) dM_inverted_96 0 rfl rfl ?_
            refine ev_getR (pc := 97) dM_inverted_97 lM_48 rfl rfl ?_
            refine ev_iload (pc := 100) dM_inverted_100 5 rfl ?_
            refine ev_iald (pc := 102) dM_inverted_102 hs (fun r102 hs => ?_)
            refine ev_aload_n (pc := 103) dM_inverted_103 0 rfl rfl ?_
            refine ev_getR (pc := 104) dM_inverted_104 lM_48 rfl rfl ?_
            refine ev_iload (pc := 107) dM_inverted_107 6 rfl ?_
            refine ev_iald (pc := 109) dM_inverted_109 hs (fun r109 hs => ?_)
            refine ev_icmp_le (pc := 110) (tgt := 117) dM_inverted_110 (by decide) hs (fun hs => ?_) (fun hs => ?_)
            · refine ev_sub [(0, .inr 28), (2, .inl x2), (3, .inl x3), (4, .inl x4_35)] [0, 2, 3, 4] rfl ?_
              exact hj117 _ hs
            · refine ev_iconst (pc := 113) (v := 1) dM_inverted_113 (by decide) ?_
              refine ev_goto (pc := 114) (tgt := 118) dM_inverted_114 (by decide) ?_
              refine ev_sub [(0, .inr 28), (2, .inl x2), (3, .inl x3), (4, .inl x4_35)] [0, 2, 3, 4] rfl ?_
              exact hj118 _ _ hs
set_option maxHeartbeats 4000000 in
set_option maxRecDepth 100000 in
theorem cM_inverted_L24 {k132 : Int32 → Hp → RO} {x2 : Int32} {post : Int32 → Hp → Prop} (hk132 : ∀ (y1 : Int32) (h : Hp), Sat post (k132 y1 h) → Ev mM_inverted 5 132 [(0, .inr 28), (1, .inl y1), (2, .inl x2)] [] h post) : ∀ (n : Nat) (x1_24 : Int32) (x3_24 : Int32) (h24 : Hp), Sat post (fM_inverted_L24 k132 x2 n x1_24 x3_24 h24) → Ev mM_inverted 5 24 [(0, .inr 28), (1, .inl x1_24), (2, .inl x2), (3, .inl x3_24)] [] h24 post := by
  intro n
  induction n with
  | zero =>
    intro x1_24 x3_24 h24 hs
    exact False.elim hs
  | succ n ih =>
    intro x1_24 x3_24 h24 hs
    refine ev_iload_n (pc := 24) dM_inverted_24 3 rfl rfl ?_
    refine ev_aload_n (pc := 25) dM_inverted_25 0 rfl rfl ?_
    refine ev_getI (pc := 26) dM_inverted_26 lM_181 rfl rfl ?_
    refine ev_icmp_ge (pc := 29) (tgt := 132) dM_inverted_29 (by decide) hs (fun hs => ?_) (fun hs => ?_)
    · refine ev_sub [(0, .inr 28), (1, .inl x1_24), (2, .inl x2)] [0, 1, 2] rfl ?_
      exact hk132 _ _ hs
    · refine ev_iconst (pc := 32) (v := 0) dM_inverted_32 (by decide) ?_
      refine ev_istore (pc := 33) (L' := [(0, .inr 28), (1, .inl x1_24), (2, .inl x2), (3, .inl x3_24), (4, .inl 0)]) dM_inverted_33 rfl (Nat.le_of_ble_eq_true rfl) rfl ?_
      refine cM_inverted_L35 (fun x1_126 h126 hs => ?_) _ _ _ _ hs
      refine ev_iinc (pc := 126) (L' := [(0, .inr 28), (1, .inl x1_126), (2, .inl x2), (3, .inl (x3_24 + 1))]) (v := (x3_24 + 1)) dM_inverted_126 3 rfl (congrArg (HAdd.hAdd _) (by decide)) rfl (Nat.le_of_ble_eq_true rfl) rfl ?_
      refine ev_goto (pc := 129) (tgt := 24) dM_inverted_129 (by decide) ?_
      exact ih _ _ _ hs
set_option maxHeartbeats 4000000 in
set_option maxRecDepth 100000 in
theorem cM_inverted_L9  {post : Int32 → Hp → Prop}  : ∀ (n : Nat) (x1_9 : Int32) (x2_9 : Int32) (h9 : Hp), Sat post (fM_inverted_L9 n x1_9 x2_9 h9) → Ev mM_inverted 5 9 [(0, .inr 28), (1, .inl x1_9), (2, .inl x2_9)] [] h9 post := by
  intro n
  induction n with
  | zero =>
    intro x1_9 x2_9 h9 hs
    exact False.elim hs
  | succ n ih =>
    intro x1_9 x2_9 h9 hs
    refine ev_iload_n (pc := 9) dM_inverted_9 2 rfl rfl ?_
    refine ev_aload_n (pc := 10) dM_inverted_10 0 rfl rfl ?_
    refine ev_callV (pc := 11) (As := []) (S := [.inl x2_9]) (d2 := 0) dM_inverted_11 vM_106 zM_places rfl rfl rfl rfl (Nat.le_of_ble_eq_true rfl) (Nat.le_of_ble_eq_true rfl) rfl rfl (fun p1 hz => cM_places hz) hs (fun r11 h11 hs => ?_)
    refine ev_icmp_ge (pc := 14) (tgt := 138) dM_inverted_14 (by decide) hs (fun hs => ?_) (fun hs => ?_)
    · refine ev_iload_n (pc := 138) dM_inverted_138 1 rfl rfl ?_
      exact ev_iret rfl dM_inverted_139 hs
    · refine ev_aload_n (pc := 17) dM_inverted_17 0 rfl rfl ?_
      refine ev_iload_n (pc := 18) dM_inverted_18 2 rfl rfl ?_
      refine ev_callVv (pc := 19) (As := [.inl x2_9]) (S := []) (d2 := 0) dM_inverted_19 vM_187 zM_findOrder rfl rfl rfl rfl (Nat.le_of_ble_eq_true rfl) (Nat.le_of_ble_eq_true rfl) rfl rfl (fun p1 hz => cM_findOrder hz) hs (fun r19 h19 hs => ?_)
      refine ev_iconst (pc := 22) (v := 0) dM_inverted_22 (by decide) ?_
      refine ev_istore_n (pc := 23) (L' := [(0, .inr 28), (1, .inl x1_9), (2, .inl x2_9), (3, .inl 0)]) dM_inverted_23 rfl rfl (Nat.le_of_ble_eq_true rfl) rfl ?_
      refine cM_inverted_L24 (fun x1_132 h132 hs => ?_) _ _ _ _ hs
      refine ev_iinc (pc := 132) (L' := [(0, .inr 28), (1, .inl x1_132), (2, .inl (x2_9 + 1))]) (v := (x2_9 + 1)) dM_inverted_132 2 rfl (congrArg (HAdd.hAdd _) (by decide)) rfl (Nat.le_of_ble_eq_true rfl) rfl ?_
      refine ev_goto (pc := 135) (tgt := 9) dM_inverted_135 (by decide) ?_
      exact ih _ _ _ hs
set_option maxHeartbeats 4000000 in
set_option maxRecDepth 100000 in
theorem cM_inverted {h0 : Hp}  {post : Int32 → Hp → Prop} (hs : Sat post (fM_inverted h0 )) : Mt mM_inverted 5 [.inr 28] h0 post := by
  refine mt_body (L := [(0, .inr 28)]) (by decide +kernel) (Nat.le_of_ble_eq_true rfl) rfl ?_
  refine ev_aload_n (pc := 0) dM_inverted_0 0 rfl rfl ?_
  refine ev_iconst (pc := 1) (v := (-1)) dM_inverted_1 (by decide) ?_
  refine ev_callVv (pc := 2) (As := [.inl (-1)]) (S := []) (d2 := 4) dM_inverted_2 vM_168 zM_find rfl rfl rfl rfl (Nat.le_of_ble_eq_true rfl) (Nat.le_of_ble_eq_true rfl) rfl rfl (fun p1 hz => cM_find hz) hs (fun r2 h2 hs => ?_)
  refine ev_iconst (pc := 5) (v := 0) dM_inverted_5 (by decide) ?_
  refine ev_istore_n (pc := 6) (L' := [(0, .inr 28), (1, .inl 0)]) dM_inverted_6 rfl rfl (Nat.le_of_ble_eq_true rfl) rfl ?_
  refine ev_iconst (pc := 7) (v := 0) dM_inverted_7 (by decide) ?_
  refine ev_istore_n (pc := 8) (L' := [(0, .inr 28), (1, .inl 0), (2, .inl 0)]) dM_inverted_8 rfl rfl (Nat.le_of_ble_eq_true rfl) rfl ?_
  exact cM_inverted_L9  _ _ _ _ hs
set_option maxHeartbeats 4000000 in
set_option maxRecDepth 100000 in
theorem cM_span_L33 {k138 : Int32 → Int32 → Int32 → Hp → RO} {x1 : Int32} {x2 : Int32} {post : Int32 → Hp → Prop} (hk138 : ∀ (y3 : Int32) (y4 : Int32) (y5 : Int32) (h : Hp), Sat post (k138 y3 y4 y5 h) → Ev mM_span 3 138 [(2, .inl x2), (3, .inl y3), (4, .inl y4), (5, .inl y5)] [] h post) : ∀ (n : Nat) (x3_33 : Int32) (x4_33 : Int32) (x5_33 : Int32) (x6_33 : Int32) (h33 : Hp), Sat post (fM_span_L33 k138 x1 x2 n x3_33 x4_33 x5_33 x6_33 h33) → Ev mM_span 3 33 [(0, .inr 28), (1, .inl x1), (2, .inl x2), (3, .inl x3_33), (4, .inl x4_33), (5, .inl x5_33), (6, .inl x6_33)] [] h33 post := by
  intro n
  induction n with
  | zero =>
    intro x3_33 x4_33 x5_33 x6_33 h33 hs
    exact False.elim hs
  | succ n ih =>
    intro x3_33 x4_33 x5_33 x6_33 h33 hs
    refine ev_iload (pc := 33) dM_span_33 6 rfl ?_
    refine ev_aload_n (pc := 35) dM_span_35 0 rfl rfl ?_
    refine ev_getI (pc := 36) dM_span_36 lM_96 rfl rfl ?_
    refine ev_icmp_ge (pc := 39) (tgt := 138) dM_span_39 (by decide) hs (fun hs => ?_) (fun hs => ?_)
    · refine ev_sub [(2, .inl x2), (3, .inl x3_33), (4, .inl x4_33), (5, .inl x5_33)] [2, 3, 4, 5] rfl ?_
      exact hk138 _ _ _ _ hs
    · refine ev_aload_n (pc := 42) dM_span_42 0 rfl rfl ?_
      refine ev_getR (pc := 43) dM_span_43 lM_51 rfl rfl ?_
      refine ev_iload (pc := 46) dM_span_46 6 rfl ?_
      refine ev_iald (pc := 48) dM_span_48 hs (fun r48 hs => ?_)
      refine ev_iload_n (pc := 49) dM_span_49 1 rfl rfl ?_
      refine ev_jn (fun (j : Int32 → Int32 → Int32 → Hp → RO) => ∀ (x3_132 : Int32) (x4_132 : Int32) (x5_132 : Int32) (h132 : Hp), Sat post (j x3_132 x4_132 x5_132 h132) → Ev mM_span 3 132 [(0, .inr 28), (1, .inl x1), (2, .inl x2), (3, .inl x3_132), (4, .inl x4_132), (5, .inl x5_132), (6, .inl x6_33)] [] h132 post) hs (fun x3_132 x4_132 x5_132 h132 hs => ?_) (fun j132 hj132 hs => ?_)
      · refine ev_iinc (pc := 132) (L' := [(0, .inr 28), (1, .inl x1), (2, .inl x2), (3, .inl x3_132), (4, .inl x4_132), (5, .inl x5_132), (6, .inl (x6_33 + 1))]) (v := (x6_33 + 1)) dM_span_132 6 rfl (congrArg (HAdd.hAdd _) (by decide)) rfl (Nat.le_of_ble_eq_true rfl) rfl ?_
        refine ev_goto (pc := 135) (tgt := 33) dM_span_135 (by decide) ?_
        exact ih _ _ _ _ _ hs
      refine ev_icmp_ne (pc := 50) (tgt := 132) dM_span_50 (by decide) hs (fun hs => ?_) (fun hs => ?_)
      · exact hj132 _ _ _ _ hs
      · refine ev_aload_n (pc := 53) dM_span_53 0 rfl rfl ?_
        refine ev_getR (pc := 54) dM_span_54 lM_48 rfl rfl ?_
        refine ev_iload (pc := 57) dM_span_57 6 rfl ?_
        refine ev_iald (pc := 59) dM_span_59 hs (fun r59 hs => ?_)
        refine ev_if_lt (pc := 60) (tgt := 132) dM_span_60 (by decide) hs (fun hs => ?_) (fun hs => ?_)
        · exact hj132 _ _ _ _ hs
        · refine ev_aload_n (pc := 63) dM_span_63 0 rfl rfl ?_
          refine ev_aload_n (pc := 64) dM_span_64 0 rfl rfl ?_
          refine ev_getR (pc := 65) dM_span_65 lM_33 rfl rfl ?_
          refine ev_iload (pc := 68) dM_span_68 6 rfl ?_
          refine ev_iald (pc := 70) dM_span_70 hs (fun r70 hs => ?_)
          refine ev_callV (pc := 71) (As := [.inl r70]) (S := []) (d2 := 2) dM_span_71 vM_136 zM_takesPart rfl rfl rfl rfl (Nat.le_of_ble_eq_true rfl) (Nat.le_of_ble_eq_true rfl) rfl rfl (fun p1 hz => cM_takesPart hz) hs (fun r71 h71 hs => ?_)
          refine ev_if_eq (pc := 74) (tgt := 132) dM_span_74 (by decide) hs (fun hs => ?_) (fun hs => ?_)
          · exact hj132 _ _ _ _ hs
          · refine ev_iinc (pc := 77) (L' := [(0, .inr 28), (1, .inl x1), (2, .inl x2), (3, .inl (x3_33 + 1)), (4, .inl x4_33), (5, .inl x5_33), (6, .inl x6_33)]) (v := (x3_33 + 1)) dM_span_77 3 rfl (congrArg (HAdd.hAdd _) (by decide)) rfl (Nat.le_of_ble_eq_true rfl) rfl ?_
            refine ev_aload_n (pc := 80) dM_span_80 0 rfl rfl ?_
            refine ev_getR (pc := 81) dM_span_81 lM_48 rfl rfl ?_
            refine ev_iload (pc := 84) dM_span_84 6 rfl ?_
            refine ev_iald (pc := 86) dM_span_86 hs (fun r86 hs => ?_)
            refine ev_iload (pc := 87) dM_span_87 4 rfl ?_
            refine ev_jn (fun (j : Int32 → Hp → RO) => ∀ (s104 : Int32) (h104 : Hp), Sat post (j s104 h104) → Ev mM_span 3 104 [(0, .inr 28), (1, .inl x1), (2, .inl x2), (3, .inl (x3_33 + 1)), (5, .inl x5_33), (6, .inl x6_33)] [.inl s104] h104 post) hs (fun s104 h104 hs => ?_) (fun j104 hj104 hs => ?_)
            · refine ev_istore (pc := 104) (L' := [(0, .inr 28), (1, .inl x1), (2, .inl x2), (3, .inl (x3_33 + 1)), (4, .inl s104), (5, .inl x5_33), (6, .inl x6_33)]) dM_span_104 rfl (Nat.le_of_ble_eq_true rfl) rfl ?_
              refine ev_aload_n (pc := 106) dM_span_106 0 rfl rfl ?_
              refine ev_getR (pc := 107) dM_span_107 lM_48 rfl rfl ?_
              refine ev_iload (pc := 110) dM_span_110 6 rfl ?_
              refine ev_iald (pc := 112) dM_span_112 hs (fun r112 hs => ?_)
              refine ev_iload (pc := 113) dM_span_113 5 rfl ?_
              refine ev_jn (fun (j : Int32 → Hp → RO) => ∀ (s130 : Int32) (h130 : Hp), Sat post (j s130 h130) → Ev mM_span 3 130 [(0, .inr 28), (1, .inl x1), (2, .inl x2), (3, .inl (x3_33 + 1)), (4, .inl s104), (6, .inl x6_33)] [.inl s130] h130 post) hs (fun s130 h130 hs => ?_) (fun j130 hj130 hs => ?_)
              · refine ev_istore (pc := 130) (L' := [(0, .inr 28), (1, .inl x1), (2, .inl x2), (3, .inl (x3_33 + 1)), (4, .inl s104), (5, .inl s130), (6, .inl x6_33)]) dM_span_130 rfl (Nat.le_of_ble_eq_true rfl) rfl ?_
                exact hj132 _ _ _ _ hs
              refine ev_icmp_le (pc := 115) (tgt := 128) dM_span_115 (by decide) hs (fun hs => ?_) (fun hs => ?_)
              · refine ev_iload (pc := 128) dM_span_128 5 rfl ?_
                refine ev_sub [(0, .inr 28), (1, .inl x1), (2, .inl x2), (3, .inl (x3_33 + 1)), (4, .inl s104), (6, .inl x6_33)] [0, 1, 2, 3, 4, 6] rfl ?_
                exact hj130 _ _ hs
              · refine ev_aload_n (pc := 118) dM_span_118 0 rfl rfl ?_
                refine ev_getR (pc := 119) dM_span_119 lM_48 rfl rfl ?_
                refine ev_iload (pc := 122) dM_span_122 6 rfl ?_
                refine ev_iald (pc := 124) dM_span_124 hs (fun r124 hs => ?_)
                refine ev_goto (pc := 125) (tgt := 130) dM_span_125 (by decide) ?_
                refine ev_sub [(0, .inr 28), (1, .inl x1), (2, .inl x2), (3, .inl (x3_33 + 1)), (4, .inl s104), (6, .inl x6_33)] [0, 1, 2, 3, 4, 6] rfl ?_
                exact hj130 _ _ hs
            refine ev_icmp_ge (pc := 89) (tgt := 102) dM_span_89 (by decide) hs (fun hs => ?_) (fun hs => ?_)
            · refine ev_iload (pc := 102) dM_span_102 4 rfl ?_
              refine ev_sub [(0, .inr 28), (1, .inl x1), (2, .inl x2), (3, .inl (x3_33 + 1)), (5, .inl x5_33), (6, .inl x6_33)] [0, 1, 2, 3, 5, 6] rfl ?_
              exact hj104 _ _ hs
            · refine ev_aload_n (pc := 92) dM_span_92 0 rfl rfl ?_
              refine ev_getR (pc := 93) dM_span_93 lM_48 rfl rfl ?_
              refine ev_iload (pc := 96) dM_span_96 6 rfl ?_
              refine ev_iald (pc := 98) dM_span_98 hs (fun r98 hs => ?_)
              refine ev_goto (pc := 99) (tgt := 104) dM_span_99 (by decide) ?_
              refine ev_sub [(0, .inr 28), (1, .inl x1), (2, .inl x2), (3, .inl (x3_33 + 1)), (5, .inl x5_33), (6, .inl x6_33)] [0, 1, 2, 3, 5, 6] rfl ?_
              exact hj104 _ _ hs
set_option maxHeartbeats 4000000 in
set_option maxRecDepth 100000 in
theorem cM_span {h0 : Hp} {x1 : Int32} {x2 : Int32} {post : Int32 → Hp → Prop} (hs : Sat post (fM_span h0 x1 x2)) : Mt mM_span 3 [.inr 28, .inl x1, .inl x2] h0 post := by
  refine mt_body (L := [(0, .inr 28), (1, .inl x1), (2, .inl x2)]) (by decide +kernel) (Nat.le_of_ble_eq_true rfl) rfl ?_
  refine ev_iload_n (pc := 0) dM_span_0 1 rfl rfl ?_
  refine ev_iconst (pc := 1) (v := 0) dM_span_1 (by decide) ?_
  refine ev_iconst (pc := 2) (v := 5) dM_span_2 (by decide) ?_
  refine ev_callS (pc := 3) (As := [.inl x1, .inl 0, .inl 5]) (S := []) (d2 := 0) dM_span_3 (Or.inl vM_99) zM_in rfl (Nat.le_of_ble_eq_true rfl) (Nat.le_of_ble_eq_true rfl) rfl rfl (fun p1 hz => cM_in hz) hs (fun r3 h3 hs => ?_)
  refine ev_if_eq (pc := 6) (tgt := 18) dM_span_6 (by decide) hs (fun hs => ?_) (fun hs => ?_)
  · refine ev_iconst (pc := 18) (v := (-1)) dM_span_18 (by decide) ?_
    exact ev_iret rfl dM_span_19 hs
  · refine ev_iload_n (pc := 9) dM_span_9 2 rfl rfl ?_
    refine ev_iconst (pc := 10) (v := 0) dM_span_10 (by decide) ?_
    refine ev_iconst (pc := 11) (v := 2) dM_span_11 (by decide) ?_
    refine ev_callS (pc := 12) (As := [.inl x2, .inl 0, .inl 2]) (S := []) (d2 := 0) dM_span_12 (Or.inl vM_99) zM_in rfl (Nat.le_of_ble_eq_true rfl) (Nat.le_of_ble_eq_true rfl) rfl rfl (fun p1 hz => cM_in hz) hs (fun r12 h12 hs => ?_)
    refine ev_if_ne (pc := 15) (tgt := 20) dM_span_15 (by decide) hs (fun hs => ?_) (fun hs => ?_)
    · refine ev_iconst (pc := 20) (v := 0) dM_span_20 (by decide) ?_
      refine ev_istore_n (pc := 21) (L' := [(0, .inr 28), (1, .inl x1), (2, .inl x2), (3, .inl 0)]) dM_span_21 rfl rfl (Nat.le_of_ble_eq_true rfl) rfl ?_
      refine ev_sipush (pc := 22) (v := 1000) dM_span_22 (by decide) ?_
      refine ev_istore (pc := 25) (L' := [(0, .inr 28), (1, .inl x1), (2, .inl x2), (3, .inl 0), (4, .inl 1000)]) dM_span_25 rfl (Nat.le_of_ble_eq_true rfl) rfl ?_
      refine ev_iconst (pc := 27) (v := (-1)) dM_span_27 (by decide) ?_
      refine ev_istore (pc := 28) (L' := [(0, .inr 28), (1, .inl x1), (2, .inl x2), (3, .inl 0), (4, .inl 1000), (5, .inl (-1))]) dM_span_28 rfl (Nat.le_of_ble_eq_true rfl) rfl ?_
      refine ev_iconst (pc := 30) (v := 0) dM_span_30 (by decide) ?_
      refine ev_istore (pc := 31) (L' := [(0, .inr 28), (1, .inl x1), (2, .inl x2), (3, .inl 0), (4, .inl 1000), (5, .inl (-1)), (6, .inl 0)]) dM_span_31 rfl (Nat.le_of_ble_eq_true rfl) rfl ?_
      refine cM_span_L33 (fun x3_138 x4_138 x5_138 h138 hs => ?_) _ _ _ _ _ _ hs
      refine ev_iload_n (pc := 138) dM_span_138 0 rfl rfl ?_
      refine ev_iconst (pc := 139) (v := 2) dM_span_139 (by decide) ?_
      refine ev_icmp_ne (pc := 140) (tgt := 145) dM_span_140 (by decide) hs (fun hs => ?_) (fun hs => ?_)
      · refine ev_iload_n (pc := 145) dM_span_145 1 rfl rfl ?_
        refine ev_if_ne (pc := 146) (tgt := 154) dM_span_146 (by decide) hs (fun hs => ?_) (fun hs => ?_)
        · refine ev_iload_n (pc := 154) dM_span_154 0 rfl rfl ?_
          refine ev_if_ne (pc := 155) (tgt := 163) dM_span_155 (by decide) hs (fun hs => ?_) (fun hs => ?_)
          · refine ev_iload (pc := 163) dM_span_163 3 rfl ?_
            exact ev_iret rfl dM_span_165 hs
          · refine ev_iload (pc := 158) dM_span_158 2 rfl ?_
            refine ev_goto (pc := 160) (tgt := 165) dM_span_160 (by decide) ?_
            exact ev_iret rfl dM_span_165 hs
        · refine ev_bipush (pc := 149) (v := (-4)) dM_span_149 (by decide) ?_
          refine ev_goto (pc := 151) (tgt := 165) dM_span_151 (by decide) ?_
          exact ev_iret rfl dM_span_165 hs
      · refine ev_iload_n (pc := 143) dM_span_143 1 rfl rfl ?_
        exact ev_iret rfl dM_span_144 hs
    · refine ev_iconst (pc := 18) (v := (-1)) dM_span_18 (by decide) ?_
      exact ev_iret rfl dM_span_19 hs
set_option maxHeartbeats 4000000 in
set_option maxRecDepth 100000 in
theorem cM_common_L4  {post : Int32 → Hp → Prop}  : ∀ (n : Nat) (x2_4 : Int32) (x3_4 : Int32) (h4 : Hp), Sat post (fM_common_L4 n x2_4 x3_4 h4) → Ev mM_common 0 4 [(2, .inl x2_4), (3, .inl x3_4)] [] h4 post := by
  intro n
  induction n with
  | zero =>
    intro x2_4 x3_4 h4 hs
    exact False.elim hs
  | succ n ih =>
    intro x2_4 x3_4 h4 hs
    refine ev_iload_n (pc := 4) dM_common_4 1 rfl rfl ?_
    refine ev_if_eq (pc := 5) (tgt := 21) dM_common_5 (by decide) hs (fun hs => ?_) (fun hs => ?_)
    · refine ev_iload_n (pc := 21) dM_common_21 0 rfl rfl ?_
      exact ev_iret rfl dM_common_22 hs
    · refine ev_iload_n (pc := 8) dM_common_8 0 rfl rfl ?_
      refine ev_iload_n (pc := 9) dM_common_9 1 rfl rfl ?_
      refine ev_irem (pc := 10) dM_common_10 hs (fun q10 hs => ?_)
      refine ev_istore (pc := 11) (L' := [(2, .inl x2_4), (3, .inl x3_4), (4, .inl q10)]) dM_common_11 rfl (Nat.le_of_ble_eq_true rfl) rfl ?_
      refine ev_iload_n (pc := 13) dM_common_13 1 rfl rfl ?_
      refine ev_istore_n (pc := 14) (L' := [(2, .inl x3_4), (3, .inl x3_4), (4, .inl q10)]) dM_common_14 rfl rfl (Nat.le_of_ble_eq_true rfl) rfl ?_
      refine ev_iload (pc := 15) dM_common_15 2 rfl ?_
      refine ev_istore_n (pc := 17) (L' := [(2, .inl x3_4), (3, .inl q10), (4, .inl q10)]) dM_common_17 rfl rfl (Nat.le_of_ble_eq_true rfl) rfl ?_
      refine ev_goto (pc := 18) (tgt := 4) dM_common_18 (by decide) ?_
      refine ev_sub [(2, .inl x3_4), (3, .inl q10)] [0, 1] rfl ?_
      exact ih _ _ _ hs
set_option maxHeartbeats 4000000 in
set_option maxRecDepth 100000 in
theorem cM_common {h0 : Hp} {x0 : Int32} {x1 : Int32} {post : Int32 → Hp → Prop} (hs : Sat post (fM_common h0 x0 x1)) : Mt mM_common 0 [.inl x0, .inl x1] h0 post := by
  refine mt_body (L := [(0, .inl x0), (1, .inl x1)]) (by decide +kernel) (Nat.le_of_ble_eq_true rfl) rfl ?_
  refine ev_iload_n (pc := 0) dM_common_0 0 rfl rfl ?_
  refine ev_istore_n (pc := 1) (L' := [(0, .inl x0), (1, .inl x1), (2, .inl x0)]) dM_common_1 rfl rfl (Nat.le_of_ble_eq_true rfl) rfl ?_
  refine ev_iload_n (pc := 2) dM_common_2 1 rfl rfl ?_
  refine ev_istore_n (pc := 3) (L' := [(0, .inl x0), (1, .inl x1), (2, .inl x0), (3, .inl x1)]) dM_common_3 rfl rfl (Nat.le_of_ble_eq_true rfl) rfl ?_
  refine ev_sub [(2, .inl x0), (3, .inl x1)] [2, 3] rfl ?_
  exact cM_common_L4  _ _ _ _ hs
set_option maxHeartbeats 4000000 in
set_option maxRecDepth 100000 in
theorem cM_unseen_L26 {k96 : Int32 → Int32 → Int32 → Hp → RO} {x1 : Int32} {post : Int32 → Hp → Prop} (hk96 : ∀ (y2 : Int32) (y3 : Int32) (y4 : Int32) (h : Hp), Sat post (k96 y2 y3 y4 h) → Ev mM_unseen 5 96 [(1, .inl x1), (2, .inl y2), (3, .inl y3), (4, .inl y4)] [] h post) : ∀ (n : Nat) (x2_26 : Int32) (x3_26 : Int32) (x4_26 : Int32) (x5_26 : Int32) (h26 : Hp), Sat post (fM_unseen_L26 k96 x1 n x2_26 x3_26 x4_26 x5_26 h26) → Ev mM_unseen 5 26 [(0, .inr 28), (1, .inl x1), (2, .inl x2_26), (3, .inl x3_26), (4, .inl x4_26), (5, .inl x5_26)] [] h26 post := by
  intro n
  induction n with
  | zero =>
    intro x2_26 x3_26 x4_26 x5_26 h26 hs
    exact False.elim hs
  | succ n ih =>
    intro x2_26 x3_26 x4_26 x5_26 h26 hs
    refine ev_iload (pc := 26) dM_unseen_26 5 rfl ?_
    refine ev_aload_n (pc := 28) dM_unseen_28 0 rfl rfl ?_
    refine ev_callV (pc := 29) (As := []) (S := [.inl x5_26]) (d2 := 0) dM_unseen_29 vM_106 zM_places rfl rfl rfl rfl (Nat.le_of_ble_eq_true rfl) (Nat.le_of_ble_eq_true rfl) rfl rfl (fun p1 hz => cM_places hz) hs (fun r29 h29 hs => ?_)
    refine ev_icmp_ge (pc := 32) (tgt := 96) dM_unseen_32 (by decide) hs (fun hs => ?_) (fun hs => ?_)
    · refine ev_sub [(1, .inl x1), (2, .inl x2_26), (3, .inl x3_26), (4, .inl x4_26)] [1, 2, 3, 4] rfl ?_
      exact hk96 _ _ _ _ hs
    · refine ev_aload_n (pc := 35) dM_unseen_35 0 rfl rfl ?_
      refine ev_iload (pc := 36) dM_unseen_36 5 rfl ?_
      refine ev_callVv (pc := 38) (As := [.inl x5_26]) (S := []) (d2 := 0) dM_unseen_38 vM_187 zM_findOrder rfl rfl rfl rfl (Nat.le_of_ble_eq_true rfl) (Nat.le_of_ble_eq_true rfl) rfl rfl (fun p1 hz => cM_findOrder hz) hs (fun r38 h38 hs => ?_)
      refine ev_iload_n (pc := 41) dM_unseen_41 2 rfl rfl ?_
      refine ev_aload_n (pc := 42) dM_unseen_42 0 rfl rfl ?_
      refine ev_getI (pc := 43) dM_unseen_43 lM_181 rfl rfl ?_
      refine ev_jn (fun (j : Int32 → Hp → RO) => ∀ (s54 : Int32) (h54 : Hp), Sat post (j s54 h54) → Ev mM_unseen 5 54 [(0, .inr 28), (1, .inl x1), (3, .inl x3_26), (4, .inl x4_26), (5, .inl x5_26)] [.inl s54, .inl x2_26] h54 post) hs (fun s54 h54 hs => ?_) (fun j54 hj54 hs => ?_)
      · refine ev_iadd (pc := 54) dM_unseen_54 ?_
        refine ev_bnd hs (fun v55 hs => ?_)
        refine ev_istore_n (pc := 55) (L' := [(0, .inr 28), (1, .inl x1), (2, .inl v55), (3, .inl x3_26), (4, .inl x4_26), (5, .inl x5_26)]) dM_unseen_55 rfl rfl (Nat.le_of_ble_eq_true rfl) rfl ?_
        refine ev_iload_n (pc := 56) dM_unseen_56 3 rfl rfl ?_
        refine ev_aload_n (pc := 57) dM_unseen_57 0 rfl rfl ?_
        refine ev_getI (pc := 58) dM_unseen_58 lM_181 rfl rfl ?_
        refine ev_iconst (pc := 61) (v := 1) dM_unseen_61 (by decide) ?_
        refine ev_jn (fun (j : Int32 → Hp → RO) => ∀ (s70 : Int32) (h70 : Hp), Sat post (j s70 h70) → Ev mM_unseen 5 70 [(0, .inr 28), (1, .inl x1), (2, .inl v55), (4, .inl x4_26), (5, .inl x5_26)] [.inl s70, .inl x3_26] h70 post) hs (fun s70 h70 hs => ?_) (fun j70 hj70 hs => ?_)
        · refine ev_iadd (pc := 70) dM_unseen_70 ?_
          refine ev_bnd hs (fun v71 hs => ?_)
          refine ev_istore_n (pc := 71) (L' := [(0, .inr 28), (1, .inl x1), (2, .inl v55), (3, .inl v71), (4, .inl x4_26), (5, .inl x5_26)]) dM_unseen_71 rfl rfl (Nat.le_of_ble_eq_true rfl) rfl ?_
          refine ev_iload (pc := 72) dM_unseen_72 4 rfl ?_
          refine ev_aload_n (pc := 74) dM_unseen_74 0 rfl rfl ?_
          refine ev_getI (pc := 75) dM_unseen_75 lM_181 rfl rfl ?_
          refine ev_iconst (pc := 78) (v := 2) dM_unseen_78 (by decide) ?_
          refine ev_jn (fun (j : Int32 → Hp → RO) => ∀ (s87 : Int32) (h87 : Hp), Sat post (j s87 h87) → Ev mM_unseen 5 87 [(0, .inr 28), (1, .inl x1), (2, .inl v55), (3, .inl v71), (5, .inl x5_26)] [.inl s87, .inl x4_26] h87 post) hs (fun s87 h87 hs => ?_) (fun j87 hj87 hs => ?_)
          · refine ev_iadd (pc := 87) dM_unseen_87 ?_
            refine ev_bnd hs (fun v88 hs => ?_)
            refine ev_istore (pc := 88) (L' := [(0, .inr 28), (1, .inl x1), (2, .inl v55), (3, .inl v71), (4, .inl v88), (5, .inl x5_26)]) dM_unseen_88 rfl (Nat.le_of_ble_eq_true rfl) rfl ?_
            refine ev_iinc (pc := 90) (L' := [(0, .inr 28), (1, .inl x1), (2, .inl v55), (3, .inl v71), (4, .inl v88), (5, .inl (x5_26 + 1))]) (v := (x5_26 + 1)) dM_unseen_90 5 rfl (congrArg (HAdd.hAdd _) (by decide)) rfl (Nat.le_of_ble_eq_true rfl) rfl ?_
            refine ev_goto (pc := 93) (tgt := 26) dM_unseen_93 (by decide) ?_
            exact ih _ _ _ _ _ hs
          refine ev_icmp_ne (pc := 79) (tgt := 86) dM_unseen_79 (by decide) hs (fun hs => ?_) (fun hs => ?_)
          · refine ev_iconst (pc := 86) (v := 0) dM_unseen_86 (by decide) ?_
            refine ev_sub [(0, .inr 28), (1, .inl x1), (2, .inl v55), (3, .inl v71), (5, .inl x5_26)] [0, 1, 2, 3, 5] rfl ?_
            exact hj87 _ _ hs
          · refine ev_iconst (pc := 82) (v := 1) dM_unseen_82 (by decide) ?_
            refine ev_goto (pc := 83) (tgt := 87) dM_unseen_83 (by decide) ?_
            refine ev_sub [(0, .inr 28), (1, .inl x1), (2, .inl v55), (3, .inl v71), (5, .inl x5_26)] [0, 1, 2, 3, 5] rfl ?_
            exact hj87 _ _ hs
        refine ev_icmp_ne (pc := 62) (tgt := 69) dM_unseen_62 (by decide) hs (fun hs => ?_) (fun hs => ?_)
        · refine ev_iconst (pc := 69) (v := 0) dM_unseen_69 (by decide) ?_
          refine ev_sub [(0, .inr 28), (1, .inl x1), (2, .inl v55), (4, .inl x4_26), (5, .inl x5_26)] [0, 1, 2, 4, 5] rfl ?_
          exact hj70 _ _ hs
        · refine ev_iconst (pc := 65) (v := 1) dM_unseen_65 (by decide) ?_
          refine ev_goto (pc := 66) (tgt := 70) dM_unseen_66 (by decide) ?_
          refine ev_sub [(0, .inr 28), (1, .inl x1), (2, .inl v55), (4, .inl x4_26), (5, .inl x5_26)] [0, 1, 2, 4, 5] rfl ?_
          exact hj70 _ _ hs
      refine ev_if_le (pc := 46) (tgt := 53) dM_unseen_46 (by decide) hs (fun hs => ?_) (fun hs => ?_)
      · refine ev_iconst (pc := 53) (v := 0) dM_unseen_53 (by decide) ?_
        refine ev_sub [(0, .inr 28), (1, .inl x1), (3, .inl x3_26), (4, .inl x4_26), (5, .inl x5_26)] [0, 1, 3, 4, 5] rfl ?_
        exact hj54 _ _ hs
      · refine ev_iconst (pc := 49) (v := 1) dM_unseen_49 (by decide) ?_
        refine ev_goto (pc := 50) (tgt := 54) dM_unseen_50 (by decide) ?_
        refine ev_sub [(0, .inr 28), (1, .inl x1), (3, .inl x3_26), (4, .inl x4_26), (5, .inl x5_26)] [0, 1, 3, 4, 5] rfl ?_
        exact hj54 _ _ hs
set_option maxHeartbeats 4000000 in
set_option maxRecDepth 100000 in
theorem cM_unseen {h0 : Hp} {x1 : Int32} {post : Int32 → Hp → Prop} (hs : Sat post (fM_unseen h0 x1)) : Mt mM_unseen 5 [.inr 28, .inl x1] h0 post := by
  refine mt_body (L := [(0, .inr 28), (1, .inl x1)]) (by decide +kernel) (Nat.le_of_ble_eq_true rfl) rfl ?_
  refine ev_iload_n (pc := 0) dM_unseen_0 1 rfl rfl ?_
  refine ev_iconst (pc := 1) (v := 0) dM_unseen_1 (by decide) ?_
  refine ev_iconst (pc := 2) (v := 2) dM_unseen_2 (by decide) ?_
  refine ev_callS (pc := 3) (As := [.inl x1, .inl 0, .inl 2]) (S := []) (d2 := 0) dM_unseen_3 (Or.inl vM_99) zM_in rfl (Nat.le_of_ble_eq_true rfl) (Nat.le_of_ble_eq_true rfl) rfl rfl (fun p1 hz => cM_in hz) hs (fun r3 h3 hs => ?_)
  refine ev_if_ne (pc := 6) (tgt := 11) dM_unseen_6 (by decide) hs (fun hs => ?_) (fun hs => ?_)
  · refine ev_aload_n (pc := 11) dM_unseen_11 0 rfl rfl ?_
    refine ev_iconst (pc := 12) (v := (-1)) dM_unseen_12 (by decide) ?_
    refine ev_callVv (pc := 13) (As := [.inl (-1)]) (S := []) (d2 := 4) dM_unseen_13 vM_168 zM_find rfl rfl rfl rfl (Nat.le_of_ble_eq_true rfl) (Nat.le_of_ble_eq_true rfl) rfl rfl (fun p1 hz => cM_find hz) hs (fun r13 h13 hs => ?_)
    refine ev_iconst (pc := 16) (v := 0) dM_unseen_16 (by decide) ?_
    refine ev_istore_n (pc := 17) (L' := [(0, .inr 28), (1, .inl x1), (2, .inl 0)]) dM_unseen_17 rfl rfl (Nat.le_of_ble_eq_true rfl) rfl ?_
    refine ev_iconst (pc := 18) (v := 0) dM_unseen_18 (by decide) ?_
    refine ev_istore_n (pc := 19) (L' := [(0, .inr 28), (1, .inl x1), (2, .inl 0), (3, .inl 0)]) dM_unseen_19 rfl rfl (Nat.le_of_ble_eq_true rfl) rfl ?_
    refine ev_iconst (pc := 20) (v := 0) dM_unseen_20 (by decide) ?_
    refine ev_istore (pc := 21) (L' := [(0, .inr 28), (1, .inl x1), (2, .inl 0), (3, .inl 0), (4, .inl 0)]) dM_unseen_21 rfl (Nat.le_of_ble_eq_true rfl) rfl ?_
    refine ev_iconst (pc := 23) (v := 0) dM_unseen_23 (by decide) ?_
    refine ev_istore (pc := 24) (L' := [(0, .inr 28), (1, .inl x1), (2, .inl 0), (3, .inl 0), (4, .inl 0), (5, .inl 0)]) dM_unseen_24 rfl (Nat.le_of_ble_eq_true rfl) rfl ?_
    refine cM_unseen_L26 (fun x2_96 x3_96 x4_96 h96 hs => ?_) _ _ _ _ _ _ hs
    refine ev_iload (pc := 96) dM_unseen_96 3 rfl ?_
    refine ev_jn (fun (j : Int32 → Hp → RO) => ∀ (s112 : Int32) (h112 : Hp), Sat post (j s112 h112) → Ev mM_unseen 5 112 [(1, .inl x1), (2, .inl x2_96), (4, .inl x4_96)] [.inl s112] h112 post) hs (fun s112 h112 hs => ?_) (fun j112 hj112 hs => ?_)
    · refine ev_istore (pc := 112) (L' := [(1, .inl x1), (2, .inl x2_96), (4, .inl x4_96), (5, .inl s112)]) dM_unseen_112 rfl (Nat.le_of_ble_eq_true rfl) rfl ?_
      refine ev_iload (pc := 114) dM_unseen_114 2 rfl ?_
      refine ev_jn (fun (j : Int32 → Hp → RO) => ∀ (s127 : Int32) (h127 : Hp), Sat post (j s127 h127) → Ev mM_unseen 5 127 [(1, .inl x1), (2, .inl x2_96), (5, .inl s112)] [.inl s127] h127 post) hs (fun s127 h127 hs => ?_) (fun j127 hj127 hs => ?_)
      · refine ev_istore (pc := 127) (L' := [(1, .inl x1), (2, .inl x2_96), (5, .inl s112), (6, .inl s127)]) dM_unseen_127 rfl (Nat.le_of_ble_eq_true rfl) rfl ?_
        refine ev_iload (pc := 129) dM_unseen_129 2 rfl ?_
        refine ev_iload (pc := 131) dM_unseen_131 3 rfl ?_
        refine ev_callS (pc := 133) (As := [.inl s112, .inl s127]) (S := []) (d2 := 0) dM_unseen_133 (Or.inl vM_193) zM_common rfl (Nat.le_of_ble_eq_true rfl) (Nat.le_of_ble_eq_true rfl) rfl rfl (fun p1 hz => cM_common hz) hs (fun r133 h133 hs => ?_)
        refine ev_istore (pc := 136) (L' := [(1, .inl x1), (2, .inl x2_96), (5, .inl s112), (6, .inl s127), (7, .inl r133)]) dM_unseen_136 rfl (Nat.le_of_ble_eq_true rfl) rfl ?_
        refine ev_iload_n (pc := 138) dM_unseen_138 0 rfl rfl ?_
        refine ev_if_ne (pc := 139) (tgt := 146) dM_unseen_139 (by decide) hs (fun hs => ?_) (fun hs => ?_)
        · refine ev_iload_n (pc := 146) dM_unseen_146 0 rfl rfl ?_
          refine ev_iconst (pc := 147) (v := 1) dM_unseen_147 (by decide) ?_
          refine ev_icmp_ne (pc := 148) (tgt := 159) dM_unseen_148 (by decide) hs (fun hs => ?_) (fun hs => ?_)
          · refine ev_iload (pc := 159) dM_unseen_159 3 rfl ?_
            refine ev_iload (pc := 161) dM_unseen_161 4 rfl ?_
            refine ev_idiv (pc := 163) dM_unseen_163 hs (fun q163 hs => ?_)
            exact ev_iret rfl dM_unseen_164 hs
          · refine ev_iload (pc := 151) dM_unseen_151 2 rfl ?_
            refine ev_iload (pc := 153) dM_unseen_153 4 rfl ?_
            refine ev_idiv (pc := 155) dM_unseen_155 hs (fun q155 hs => ?_)
            refine ev_goto (pc := 156) (tgt := 164) dM_unseen_156 (by decide) ?_
            exact ev_iret rfl dM_unseen_164 hs
        · refine ev_iload_n (pc := 142) dM_unseen_142 1 rfl rfl ?_
          refine ev_goto (pc := 143) (tgt := 164) dM_unseen_143 (by decide) ?_
          exact ev_iret rfl dM_unseen_164 hs
      refine ev_if_le (pc := 116) (tgt := 126) dM_unseen_116 (by decide) hs (fun hs => ?_) (fun hs => ?_)
      · refine ev_iconst (pc := 126) (v := 2) dM_unseen_126 (by decide) ?_
        refine ev_sub [(1, .inl x1), (2, .inl x2_96), (5, .inl s112)] [0, 1, 3] rfl ?_
        exact hj127 _ _ hs
      · refine ev_iconst (pc := 119) (v := 2) dM_unseen_119 (by decide) ?_
        refine ev_iload (pc := 120) dM_unseen_120 2 rfl ?_
        refine ev_imul (pc := 122) dM_unseen_122 ?_
        refine ev_goto (pc := 123) (tgt := 127) dM_unseen_123 (by decide) ?_
        refine ev_sub [(1, .inl x1), (2, .inl x2_96), (5, .inl s112)] [0, 1, 3] rfl ?_
        exact hj127 _ _ hs
    refine ev_if_le (pc := 98) (tgt := 107) dM_unseen_98 (by decide) hs (fun hs => ?_) (fun hs => ?_)
    · refine ev_iload_n (pc := 107) dM_unseen_107 2 rfl rfl ?_
      refine ev_iload_n (pc := 108) dM_unseen_108 2 rfl rfl ?_
      refine ev_iconst (pc := 109) (v := 1) dM_unseen_109 (by decide) ?_
      refine ev_isub (pc := 110) dM_unseen_110 ?_
      refine ev_imul (pc := 111) dM_unseen_111 ?_
      refine ev_sub [(1, .inl x1), (2, .inl x2_96), (4, .inl x4_96)] [0, 1, 3] rfl ?_
      exact hj112 _ _ hs
    · refine ev_iload_n (pc := 101) dM_unseen_101 2 rfl rfl ?_
      refine ev_iload_n (pc := 102) dM_unseen_102 2 rfl rfl ?_
      refine ev_imul (pc := 103) dM_unseen_103 ?_
      refine ev_goto (pc := 104) (tgt := 112) dM_unseen_104 (by decide) ?_
      refine ev_sub [(1, .inl x1), (2, .inl x2_96), (4, .inl x4_96)] [0, 1, 3] rfl ?_
      exact hj112 _ _ hs
  · refine ev_iconst (pc := 9) (v := (-1)) dM_unseen_9 (by decide) ?_
    exact ev_iret rfl dM_unseen_10 hs
set_option maxHeartbeats 4000000 in
set_option maxRecDepth 100000 in
theorem cM_forged_L4  {post : Int32 → Hp → Prop}  : ∀ (n : Nat) (x1_4 : Int32) (x2_4 : Int32) (h4 : Hp), Sat post (fM_forged_L4 n x1_4 x2_4 h4) → Ev mM_forged 2 4 [(0, .inr 28), (1, .inl x1_4), (2, .inl x2_4)] [] h4 post := by
  intro n
  induction n with
  | zero =>
    intro x1_4 x2_4 h4 hs
    exact False.elim hs
  | succ n ih =>
    intro x1_4 x2_4 h4 hs
    refine ev_iload_n (pc := 4) dM_forged_4 2 rfl rfl ?_
    refine ev_aload_n (pc := 5) dM_forged_5 0 rfl rfl ?_
    refine ev_getI (pc := 6) dM_forged_6 lM_103 rfl rfl ?_
    refine ev_icmp_ge (pc := 9) (tgt := 34) dM_forged_9 (by decide) hs (fun hs => ?_) (fun hs => ?_)
    · refine ev_iload_n (pc := 34) dM_forged_34 1 rfl rfl ?_
      exact ev_iret rfl dM_forged_35 hs
    · refine ev_iload_n (pc := 12) dM_forged_12 1 rfl rfl ?_
      refine ev_aload_n (pc := 13) dM_forged_13 0 rfl rfl ?_
      refine ev_iload_n (pc := 14) dM_forged_14 2 rfl rfl ?_
      refine ev_callV (pc := 15) (As := [.inl x2_4]) (S := [.inl x1_4]) (d2 := 1) dM_forged_15 vM_133 zM_isForged rfl rfl rfl rfl (Nat.le_of_ble_eq_true rfl) (Nat.le_of_ble_eq_true rfl) rfl rfl (fun p1 hz => cM_isForged hz) hs (fun r15 h15 hs => ?_)
      refine ev_jn (fun (j : Int32 → Hp → RO) => ∀ (s26 : Int32) (h26 : Hp), Sat post (j s26 h26) → Ev mM_forged 2 26 [(0, .inr 28), (2, .inl x2_4)] [.inl s26, .inl x1_4] h26 post) hs (fun s26 h26 hs => ?_) (fun j26 hj26 hs => ?_)
      · refine ev_iadd (pc := 26) dM_forged_26 ?_
        refine ev_bnd hs (fun v27 hs => ?_)
        refine ev_istore_n (pc := 27) (L' := [(0, .inr 28), (1, .inl v27), (2, .inl x2_4)]) dM_forged_27 rfl rfl (Nat.le_of_ble_eq_true rfl) rfl ?_
        refine ev_iinc (pc := 28) (L' := [(0, .inr 28), (1, .inl v27), (2, .inl (x2_4 + 1))]) (v := (x2_4 + 1)) dM_forged_28 2 rfl (congrArg (HAdd.hAdd _) (by decide)) rfl (Nat.le_of_ble_eq_true rfl) rfl ?_
        refine ev_goto (pc := 31) (tgt := 4) dM_forged_31 (by decide) ?_
        exact ih _ _ _ hs
      refine ev_if_eq (pc := 18) (tgt := 25) dM_forged_18 (by decide) hs (fun hs => ?_) (fun hs => ?_)
      · refine ev_iconst (pc := 25) (v := 0) dM_forged_25 (by decide) ?_
        refine ev_sub [(0, .inr 28), (2, .inl x2_4)] [0, 2] rfl ?_
        exact hj26 _ _ hs
      · refine ev_iconst (pc := 21) (v := 1) dM_forged_21 (by decide) ?_
        refine ev_goto (pc := 22) (tgt := 26) dM_forged_22 (by decide) ?_
        refine ev_sub [(0, .inr 28), (2, .inl x2_4)] [0, 2] rfl ?_
        exact hj26 _ _ hs
set_option maxHeartbeats 4000000 in
set_option maxRecDepth 100000 in
theorem cM_forged {h0 : Hp}  {post : Int32 → Hp → Prop} (hs : Sat post (fM_forged h0 )) : Mt mM_forged 2 [.inr 28] h0 post := by
  refine mt_body (L := [(0, .inr 28)]) (by decide +kernel) (Nat.le_of_ble_eq_true rfl) rfl ?_
  refine ev_iconst (pc := 0) (v := 0) dM_forged_0 (by decide) ?_
  refine ev_istore_n (pc := 1) (L' := [(0, .inr 28), (1, .inl 0)]) dM_forged_1 rfl rfl (Nat.le_of_ble_eq_true rfl) rfl ?_
  refine ev_iconst (pc := 2) (v := 0) dM_forged_2 (by decide) ?_
  refine ev_istore_n (pc := 3) (L' := [(0, .inr 28), (1, .inl 0), (2, .inl 0)]) dM_forged_3 rfl rfl (Nat.le_of_ble_eq_true rfl) rfl ?_
  exact cM_forged_L4  _ _ _ _ hs
set_option maxHeartbeats 4000000 in
set_option maxRecDepth 100000 in
theorem cM_taking_L4  {post : Int32 → Hp → Prop}  : ∀ (n : Nat) (x1_4 : Int32) (x2_4 : Int32) (h4 : Hp), Sat post (fM_taking_L4 n x1_4 x2_4 h4) → Ev mM_taking 3 4 [(0, .inr 28), (1, .inl x1_4), (2, .inl x2_4)] [] h4 post := by
  intro n
  induction n with
  | zero =>
    intro x1_4 x2_4 h4 hs
    exact False.elim hs
  | succ n ih =>
    intro x1_4 x2_4 h4 hs
    refine ev_iload_n (pc := 4) dM_taking_4 2 rfl rfl ?_
    refine ev_aload_n (pc := 5) dM_taking_5 0 rfl rfl ?_
    refine ev_getI (pc := 6) dM_taking_6 lM_103 rfl rfl ?_
    refine ev_icmp_ge (pc := 9) (tgt := 34) dM_taking_9 (by decide) hs (fun hs => ?_) (fun hs => ?_)
    · refine ev_iload_n (pc := 34) dM_taking_34 1 rfl rfl ?_
      exact ev_iret rfl dM_taking_35 hs
    · refine ev_iload_n (pc := 12) dM_taking_12 1 rfl rfl ?_
      refine ev_aload_n (pc := 13) dM_taking_13 0 rfl rfl ?_
      refine ev_iload_n (pc := 14) dM_taking_14 2 rfl rfl ?_
      refine ev_callV (pc := 15) (As := [.inl x2_4]) (S := [.inl x1_4]) (d2 := 2) dM_taking_15 vM_136 zM_takesPart rfl rfl rfl rfl (Nat.le_of_ble_eq_true rfl) (Nat.le_of_ble_eq_true rfl) rfl rfl (fun p1 hz => cM_takesPart hz) hs (fun r15 h15 hs => ?_)
      refine ev_jn (fun (j : Int32 → Hp → RO) => ∀ (s26 : Int32) (h26 : Hp), Sat post (j s26 h26) → Ev mM_taking 3 26 [(0, .inr 28), (2, .inl x2_4)] [.inl s26, .inl x1_4] h26 post) hs (fun s26 h26 hs => ?_) (fun j26 hj26 hs => ?_)
      · refine ev_iadd (pc := 26) dM_taking_26 ?_
        refine ev_bnd hs (fun v27 hs => ?_)
        refine ev_istore_n (pc := 27) (L' := [(0, .inr 28), (1, .inl v27), (2, .inl x2_4)]) dM_taking_27 rfl rfl (Nat.le_of_ble_eq_true rfl) rfl ?_
        refine ev_iinc (pc := 28) (L' := [(0, .inr 28), (1, .inl v27), (2, .inl (x2_4 + 1))]) (v := (x2_4 + 1)) dM_taking_28 2 rfl (congrArg (HAdd.hAdd _) (by decide)) rfl (Nat.le_of_ble_eq_true rfl) rfl ?_
        refine ev_goto (pc := 31) (tgt := 4) dM_taking_31 (by decide) ?_
        exact ih _ _ _ hs
      refine ev_if_eq (pc := 18) (tgt := 25) dM_taking_18 (by decide) hs (fun hs => ?_) (fun hs => ?_)
      · refine ev_iconst (pc := 25) (v := 0) dM_taking_25 (by decide) ?_
        refine ev_sub [(0, .inr 28), (2, .inl x2_4)] [0, 2] rfl ?_
        exact hj26 _ _ hs
      · refine ev_iconst (pc := 21) (v := 1) dM_taking_21 (by decide) ?_
        refine ev_goto (pc := 22) (tgt := 26) dM_taking_22 (by decide) ?_
        refine ev_sub [(0, .inr 28), (2, .inl x2_4)] [0, 2] rfl ?_
        exact hj26 _ _ hs
set_option maxHeartbeats 4000000 in
set_option maxRecDepth 100000 in
theorem cM_taking {h0 : Hp}  {post : Int32 → Hp → Prop} (hs : Sat post (fM_taking h0 )) : Mt mM_taking 3 [.inr 28] h0 post := by
  refine mt_body (L := [(0, .inr 28)]) (by decide +kernel) (Nat.le_of_ble_eq_true rfl) rfl ?_
  refine ev_iconst (pc := 0) (v := 0) dM_taking_0 (by decide) ?_
  refine ev_istore_n (pc := 1) (L' := [(0, .inr 28), (1, .inl 0)]) dM_taking_1 rfl rfl (Nat.le_of_ble_eq_true rfl) rfl ?_
  refine ev_iconst (pc := 2) (v := 0) dM_taking_2 (by decide) ?_
  refine ev_istore_n (pc := 3) (L' := [(0, .inr 28), (1, .inl 0), (2, .inl 0)]) dM_taking_3 rfl rfl (Nat.le_of_ble_eq_true rfl) rfl ?_
  exact cM_taking_L4  _ _ _ _ hs
set_option maxHeartbeats 4000000 in
set_option maxRecDepth 100000 in
theorem cM_sure_L9  {post : Int32 → Hp → Prop}  : ∀ (n : Nat) (x1_9 : Int32) (x2_9 : Int32) (h9 : Hp), Sat post (fM_sure_L9 n x1_9 x2_9 h9) → Ev mM_sure 5 9 [(0, .inr 28), (1, .inl x1_9), (2, .inl x2_9)] [] h9 post := by
  intro n
  induction n with
  | zero =>
    intro x1_9 x2_9 h9 hs
    exact False.elim hs
  | succ n ih =>
    intro x1_9 x2_9 h9 hs
    refine ev_iload_n (pc := 9) dM_sure_9 2 rfl rfl ?_
    refine ev_aload_n (pc := 10) dM_sure_10 0 rfl rfl ?_
    refine ev_getI (pc := 11) dM_sure_11 lM_96 rfl rfl ?_
    refine ev_icmp_ge (pc := 14) (tgt := 44) dM_sure_14 (by decide) hs (fun hs => ?_) (fun hs => ?_)
    · refine ev_iload_n (pc := 44) dM_sure_44 1 rfl rfl ?_
      exact ev_iret rfl dM_sure_45 hs
    · refine ev_iload_n (pc := 17) dM_sure_17 1 rfl rfl ?_
      refine ev_aload_n (pc := 18) dM_sure_18 0 rfl rfl ?_
      refine ev_getR (pc := 19) dM_sure_19 lM_87 rfl rfl ?_
      refine ev_iload_n (pc := 22) dM_sure_22 2 rfl rfl ?_
      refine ev_iald (pc := 23) dM_sure_23 hs (fun r23 hs => ?_)
      refine ev_callS (pc := 24) (As := [.inl r23]) (S := [.inl x1_9]) (d2 := 0) dM_sure_24 (Or.inl vM_175) zM_manyOf rfl (Nat.le_of_ble_eq_true rfl) (Nat.le_of_ble_eq_true rfl) rfl rfl (fun p1 hz => cM_manyOf hz) hs (fun r24 h24 hs => ?_)
      refine ev_iconst (pc := 27) (v := 1) dM_sure_27 (by decide) ?_
      refine ev_jn (fun (j : Int32 → Hp → RO) => ∀ (s36 : Int32) (h36 : Hp), Sat post (j s36 h36) → Ev mM_sure 5 36 [(0, .inr 28), (2, .inl x2_9)] [.inl s36, .inl x1_9] h36 post) hs (fun s36 h36 hs => ?_) (fun j36 hj36 hs => ?_)
      · refine ev_iadd (pc := 36) dM_sure_36 ?_
        refine ev_bnd hs (fun v37 hs => ?_)
        refine ev_istore_n (pc := 37) (L' := [(0, .inr 28), (1, .inl v37), (2, .inl x2_9)]) dM_sure_37 rfl rfl (Nat.le_of_ble_eq_true rfl) rfl ?_
        refine ev_iinc (pc := 38) (L' := [(0, .inr 28), (1, .inl v37), (2, .inl (x2_9 + 1))]) (v := (x2_9 + 1)) dM_sure_38 2 rfl (congrArg (HAdd.hAdd _) (by decide)) rfl (Nat.le_of_ble_eq_true rfl) rfl ?_
        refine ev_goto (pc := 41) (tgt := 9) dM_sure_41 (by decide) ?_
        exact ih _ _ _ hs
      refine ev_icmp_ne (pc := 28) (tgt := 35) dM_sure_28 (by decide) hs (fun hs => ?_) (fun hs => ?_)
      · refine ev_iconst (pc := 35) (v := 0) dM_sure_35 (by decide) ?_
        refine ev_sub [(0, .inr 28), (2, .inl x2_9)] [0, 2] rfl ?_
        exact hj36 _ _ hs
      · refine ev_iconst (pc := 31) (v := 1) dM_sure_31 (by decide) ?_
        refine ev_goto (pc := 32) (tgt := 36) dM_sure_32 (by decide) ?_
        refine ev_sub [(0, .inr 28), (2, .inl x2_9)] [0, 2] rfl ?_
        exact hj36 _ _ hs
set_option maxHeartbeats 4000000 in
set_option maxRecDepth 100000 in
theorem cM_sure {h0 : Hp}  {post : Int32 → Hp → Prop} (hs : Sat post (fM_sure h0 )) : Mt mM_sure 5 [.inr 28] h0 post := by
  refine mt_body (L := [(0, .inr 28)]) (by decide +kernel) (Nat.le_of_ble_eq_true rfl) rfl ?_
  refine ev_aload_n (pc := 0) dM_sure_0 0 rfl rfl ?_
  refine ev_iconst (pc := 1) (v := (-1)) dM_sure_1 (by decide) ?_
  refine ev_callVv (pc := 2) (As := [.inl (-1)]) (S := []) (d2 := 4) dM_sure_2 vM_168 zM_find rfl rfl rfl rfl (Nat.le_of_ble_eq_true rfl) (Nat.le_of_ble_eq_true rfl) rfl rfl (fun p1 hz => cM_find hz) hs (fun r2 h2 hs => ?_)
  refine ev_iconst (pc := 5) (v := 0) dM_sure_5 (by decide) ?_
  refine ev_istore_n (pc := 6) (L' := [(0, .inr 28), (1, .inl 0)]) dM_sure_6 rfl rfl (Nat.le_of_ble_eq_true rfl) rfl ?_
  refine ev_iconst (pc := 7) (v := 0) dM_sure_7 (by decide) ?_
  refine ev_istore_n (pc := 8) (L' := [(0, .inr 28), (1, .inl 0), (2, .inl 0)]) dM_sure_8 rfl rfl (Nat.le_of_ble_eq_true rfl) rfl ?_
  exact cM_sure_L9  _ _ _ _ hs
set_option maxHeartbeats 4000000 in
set_option maxRecDepth 100000 in
theorem cM_many {h0 : Hp} {x1 : Int32} {post : Int32 → Hp → Prop} (hs : Sat post (fM_many h0 x1)) : Mt mM_many 6 [.inr 28, .inl x1] h0 post := by
  refine mt_body (L := [(0, .inr 28), (1, .inl x1)]) (by decide +kernel) (Nat.le_of_ble_eq_true rfl) rfl ?_
  refine ev_iload_n (pc := 0) dM_many_0 1 rfl rfl ?_
  refine ev_tsw (pc := 1) (n := 7) (dt := 79) [44, 49, 54, 59, 64, 69, 74] dM_many_1 rfl (by decide) (by decide) rfl (by decide +kernel) (by decide) hs ?_ (fun hs => ?_)
  · intro j a t ha ht hs
    match j, ha, ht with
    | 0, ha, ht =>
      cases ha
      cases ht
      refine ev_aload_n (pc := 44) dM_many_44 0 rfl rfl ?_
      refine ev_callV (pc := 45) (As := []) (S := []) (d2 := 0) dM_many_45 vM_106 zM_places rfl rfl rfl rfl (Nat.le_of_ble_eq_true rfl) (Nat.le_of_ble_eq_true rfl) rfl rfl (fun p1 hz => cM_places hz) hs (fun r45 h45 hs => ?_)
      exact ev_iret rfl dM_many_48 hs
    | 1, ha, ht =>
      cases ha
      cases ht
      refine ev_aload_n (pc := 49) dM_many_49 0 rfl rfl ?_
      refine ev_getI (pc := 50) dM_many_50 lM_103 rfl rfl ?_
      exact ev_iret rfl dM_many_53 hs
    | 2, ha, ht =>
      cases ha
      cases ht
      refine ev_aload_n (pc := 54) dM_many_54 0 rfl rfl ?_
      refine ev_getI (pc := 55) dM_many_55 lM_96 rfl rfl ?_
      exact ev_iret rfl dM_many_58 hs
    | 3, ha, ht =>
      cases ha
      cases ht
      refine ev_aload_n (pc := 59) dM_many_59 0 rfl rfl ?_
      refine ev_getI (pc := 60) dM_many_60 lM_120 rfl rfl ?_
      exact ev_iret rfl dM_many_63 hs
    | 4, ha, ht =>
      cases ha
      cases ht
      refine ev_aload_n (pc := 64) dM_many_64 0 rfl rfl ?_
      refine ev_callV (pc := 65) (As := []) (S := []) (d2 := 2) dM_many_65 vM_196 zM_forged rfl rfl rfl rfl (Nat.le_of_ble_eq_true rfl) (Nat.le_of_ble_eq_true rfl) rfl rfl (fun p1 hz => cM_forged hz) hs (fun r65 h65 hs => ?_)
      exact ev_iret rfl dM_many_68 hs
    | 5, ha, ht =>
      cases ha
      cases ht
      refine ev_aload_n (pc := 69) dM_many_69 0 rfl rfl ?_
      refine ev_callV (pc := 70) (As := []) (S := []) (d2 := 3) dM_many_70 vM_199 zM_taking rfl rfl rfl rfl (Nat.le_of_ble_eq_true rfl) (Nat.le_of_ble_eq_true rfl) rfl rfl (fun p1 hz => cM_taking hz) hs (fun r70 h70 hs => ?_)
      exact ev_iret rfl dM_many_73 hs
    | 6, ha, ht =>
      cases ha
      cases ht
      refine ev_aload_n (pc := 74) dM_many_74 0 rfl rfl ?_
      refine ev_callV (pc := 75) (As := []) (S := []) (d2 := 5) dM_many_75 vM_202 zM_sure rfl rfl rfl rfl (Nat.le_of_ble_eq_true rfl) (Nat.le_of_ble_eq_true rfl) rfl rfl (fun p1 hz => cM_sure hz) hs (fun r75 h75 hs => ?_)
      exact ev_iret rfl dM_many_78 hs
    | j + 7, ha, ht => exact absurd ht (by simp)
  · refine ev_iconst (pc := 79) (v := (-1)) dM_many_79 (by decide) ?_
    exact ev_iret rfl dM_many_80 hs
set_option maxHeartbeats 4000000 in
set_option maxRecDepth 100000 in
theorem cM_copy_L3 {x1 : Int32} {x3 : Int32} {x4 : Int32} {a0 : Nat} {a2 : Nat} {post : Int32 → Hp → Prop}  : ∀ (n : Nat) (x5_3 : Int32) (h3 : Hp), Sat post (fM_copy_L3 x1 x3 x4 a0 a2 n x5_3 h3) → Ev mM_copy 0 3 [(0, .inr a0), (1, .inl x1), (2, .inr a2), (3, .inl x3), (4, .inl x4), (5, .inl x5_3)] [] h3 post := by
  intro n
  induction n with
  | zero =>
    intro x5_3 h3 hs
    exact False.elim hs
  | succ n ih =>
    intro x5_3 h3 hs
    refine ev_iload (pc := 3) dM_copy_3 5 rfl ?_
    refine ev_iload (pc := 5) dM_copy_5 4 rfl ?_
    refine ev_icmp_ge (pc := 7) (tgt := 28) dM_copy_7 (by decide) hs (fun hs => ?_) (fun hs => ?_)
    · exact ev_vret rfl dM_copy_28 hs
    · refine ev_aload_n (pc := 10) dM_copy_10 2 rfl rfl ?_
      refine ev_iload_n (pc := 11) dM_copy_11 3 rfl rfl ?_
      refine ev_iload (pc := 12) dM_copy_12 5 rfl ?_
      refine ev_iadd (pc := 14) dM_copy_14 ?_
      refine ev_aload_n (pc := 15) dM_copy_15 0 rfl rfl ?_
      refine ev_iload_n (pc := 16) dM_copy_16 1 rfl rfl ?_
      refine ev_iload (pc := 17) dM_copy_17 5 rfl ?_
      refine ev_iadd (pc := 19) dM_copy_19 ?_
      refine ev_iald (pc := 20) dM_copy_20 hs (fun r20 hs => ?_)
      refine ev_iast (pc := 21) dM_copy_21 hs (fun h21 hs => ?_)
      refine ev_iinc (pc := 22) (L' := [(0, .inr a0), (1, .inl x1), (2, .inr a2), (3, .inl x3), (4, .inl x4), (5, .inl (x5_3 + 1))]) (v := (x5_3 + 1)) dM_copy_22 5 rfl (congrArg (HAdd.hAdd _) (by decide)) rfl (Nat.le_of_ble_eq_true rfl) rfl ?_
      refine ev_goto (pc := 25) (tgt := 3) dM_copy_25 (by decide) ?_
      exact ih _ _ hs
set_option maxHeartbeats 4000000 in
set_option maxRecDepth 100000 in
theorem cM_copy {h0 : Hp} {a0 : Nat} {x1 : Int32} {a2 : Nat} {x3 : Int32} {x4 : Int32} {post : Int32 → Hp → Prop} (hs : Sat post (fM_copy h0 a0 x1 a2 x3 x4)) : Mt mM_copy 0 [.inr a0, .inl x1, .inr a2, .inl x3, .inl x4] h0 post := by
  refine mt_body (L := [(0, .inr a0), (1, .inl x1), (2, .inr a2), (3, .inl x3), (4, .inl x4)]) (by decide +kernel) (Nat.le_of_ble_eq_true rfl) rfl ?_
  refine ev_iconst (pc := 0) (v := 0) dM_copy_0 (by decide) ?_
  refine ev_istore (pc := 1) (L' := [(0, .inr a0), (1, .inl x1), (2, .inr a2), (3, .inl x3), (4, .inl x4), (5, .inl 0)]) dM_copy_1 rfl (Nat.le_of_ble_eq_true rfl) rfl ?_
  exact cM_copy_L3  _ _ _ hs
set_option maxHeartbeats 4000000 in
set_option maxRecDepth 100000 in
theorem cM_keep_L115 {k149 : Hp → RO} {post : Int32 → Hp → Prop} (hk149 : ∀  (h : Hp), Sat post (k149 h) → Ev mM_keep 1 149 [(0, .inr 28)] [] h post) : ∀ (n : Nat) (x1_115 : Int32) (h115 : Hp), Sat post (fM_keep_L115 k149 n x1_115 h115) → Ev mM_keep 1 115 [(0, .inr 28), (1, .inl x1_115)] [] h115 post := by
  intro n
  induction n with
  | zero =>
    intro x1_115 h115 hs
    exact False.elim hs
  | succ n ih =>
    intro x1_115 h115 hs
    refine ev_iload_n (pc := 115) dM_keep_115 1 rfl rfl ?_
    refine ev_iconst (pc := 116) (v := 5) dM_keep_116 (by decide) ?_
    refine ev_icmp_ge (pc := 117) (tgt := 149) dM_keep_117 (by decide) hs (fun hs => ?_) (fun hs => ?_)
    · refine ev_sub [(0, .inr 28)] [0] rfl ?_
      exact hk149 _ hs
    · refine ev_aload_n (pc := 120) dM_keep_120 0 rfl rfl ?_
      refine ev_getR (pc := 121) dM_keep_121 lM_63 rfl rfl ?_
      refine ev_bipush (pc := 124) (v := 20) dM_keep_124 (by decide) ?_
      refine ev_iload_n (pc := 126) dM_keep_126 1 rfl rfl ?_
      refine ev_iadd (pc := 127) dM_keep_127 ?_
      refine ev_aload_n (pc := 128) dM_keep_128 0 rfl rfl ?_
      refine ev_getR (pc := 129) dM_keep_129 lM_29 rfl rfl ?_
      refine ev_iload_n (pc := 132) dM_keep_132 1 rfl rfl ?_
      refine ev_zald (pc := 133) dM_keep_133 hs (fun r133 hs => ?_)
      refine ev_jn (fun (j : Int32 → Hp → RO) => ∀ (s142 : Int32) (h142 : Hp), Sat post (j s142 h142) → Ev mM_keep 1 142 [(0, .inr 28), (1, .inl x1_115)] [.inl s142, .inl (20 + x1_115), .inr 44] h142 post) hs (fun s142 h142 hs => ?_) (fun j142 hj142 hs => ?_)
      · refine ev_iast (pc := 142) dM_keep_142 hs (fun h142 hs => ?_)
        refine ev_iinc (pc := 143) (L' := [(0, .inr 28), (1, .inl (x1_115 + 1))]) (v := (x1_115 + 1)) dM_keep_143 1 rfl (congrArg (HAdd.hAdd _) (by decide)) rfl (Nat.le_of_ble_eq_true rfl) rfl ?_
        refine ev_goto (pc := 146) (tgt := 115) dM_keep_146 (by decide) ?_
        exact ih _ _ hs
      refine ev_if_eq (pc := 134) (tgt := 141) dM_keep_134 (by decide) hs (fun hs => ?_) (fun hs => ?_)
      · refine ev_iconst (pc := 141) (v := 0) dM_keep_141 (by decide) ?_
        exact hj142 _ _ hs
      · refine ev_iconst (pc := 137) (v := 1) dM_keep_137 (by decide) ?_
        refine ev_goto (pc := 138) (tgt := 142) dM_keep_138 (by decide) ?_
        exact hj142 _ _ hs
set_option maxHeartbeats 4000000 in
set_option maxRecDepth 100000 in
theorem cM_keep {h0 : Hp}  {post : Int32 → Hp → Prop} (hs : Sat post (fM_keep h0 )) : Mt mM_keep 1 [.inr 28] h0 post := by
  refine mt_body (L := [(0, .inr 28)]) (by decide +kernel) (Nat.le_of_ble_eq_true rfl) rfl ?_
  refine ev_aload_n (pc := 0) dM_keep_0 0 rfl rfl ?_
  refine ev_iconst (pc := 1) (v := 1) dM_keep_1 (by decide) ?_
  refine ev_putZ (pc := 2) dM_keep_2 lM_205 w5_19 rfl rfl hs (fun h2 hs => ?_)
  refine ev_aload_n (pc := 5) dM_keep_5 0 rfl rfl ?_
  refine ev_getR (pc := 6) dM_keep_6 lM_60 rfl rfl ?_
  refine ev_iconst (pc := 9) (v := 0) dM_keep_9 (by decide) ?_
  refine ev_aload_n (pc := 10) dM_keep_10 0 rfl rfl ?_
  refine ev_getI (pc := 11) dM_keep_11 lM_7 rfl rfl ?_
  refine ev_iast (pc := 14) dM_keep_14 hs (fun h14 hs => ?_)
  refine ev_aload_n (pc := 15) dM_keep_15 0 rfl rfl ?_
  refine ev_getR (pc := 16) dM_keep_16 lM_60 rfl rfl ?_
  refine ev_iconst (pc := 19) (v := 1) dM_keep_19 (by decide) ?_
  refine ev_aload_n (pc := 20) dM_keep_20 0 rfl rfl ?_
  refine ev_getI (pc := 21) dM_keep_21 lM_13 rfl rfl ?_
  refine ev_iast (pc := 24) dM_keep_24 hs (fun h24 hs => ?_)
  refine ev_aload_n (pc := 25) dM_keep_25 0 rfl rfl ?_
  refine ev_getR (pc := 26) dM_keep_26 lM_60 rfl rfl ?_
  refine ev_iconst (pc := 29) (v := 2) dM_keep_29 (by decide) ?_
  refine ev_aload_n (pc := 30) dM_keep_30 0 rfl rfl ?_
  refine ev_getI (pc := 31) dM_keep_31 lM_103 rfl rfl ?_
  refine ev_iast (pc := 34) dM_keep_34 hs (fun h34 hs => ?_)
  refine ev_aload_n (pc := 35) dM_keep_35 0 rfl rfl ?_
  refine ev_getR (pc := 36) dM_keep_36 lM_60 rfl rfl ?_
  refine ev_iconst (pc := 39) (v := 3) dM_keep_39 (by decide) ?_
  refine ev_aload_n (pc := 40) dM_keep_40 0 rfl rfl ?_
  refine ev_getI (pc := 41) dM_keep_41 lM_96 rfl rfl ?_
  refine ev_iast (pc := 44) dM_keep_44 hs (fun h44 hs => ?_)
  refine ev_aload_n (pc := 45) dM_keep_45 0 rfl rfl ?_
  refine ev_getR (pc := 46) dM_keep_46 lM_60 rfl rfl ?_
  refine ev_iconst (pc := 49) (v := 4) dM_keep_49 (by decide) ?_
  refine ev_aload_n (pc := 50) dM_keep_50 0 rfl rfl ?_
  refine ev_getI (pc := 51) dM_keep_51 lM_120 rfl rfl ?_
  refine ev_iast (pc := 54) dM_keep_54 hs (fun h54 hs => ?_)
  refine ev_aload_n (pc := 55) dM_keep_55 0 rfl rfl ?_
  refine ev_getR (pc := 56) dM_keep_56 lM_16 rfl rfl ?_
  refine ev_iconst (pc := 59) (v := 0) dM_keep_59 (by decide) ?_
  refine ev_aload_n (pc := 60) dM_keep_60 0 rfl rfl ?_
  refine ev_getR (pc := 61) dM_keep_61 lM_63 rfl rfl ?_
  refine ev_iconst (pc := 64) (v := 0) dM_keep_64 (by decide) ?_
  refine ev_iconst (pc := 65) (v := 5) dM_keep_65 (by decide) ?_
  refine ev_callSv (pc := 66) (As := [.inr 29, .inl 0, .inr 44, .inl 0, .inl 5]) (S := []) (d2 := 0) dM_keep_66 (Or.inl vM_209) zM_copy rfl (Nat.le_of_ble_eq_true rfl) (Nat.le_of_ble_eq_true rfl) rfl rfl (fun p1 hz => cM_copy hz) hs (fun r66 h66 hs => ?_)
  refine ev_aload_n (pc := 69) dM_keep_69 0 rfl rfl ?_
  refine ev_getR (pc := 70) dM_keep_70 lM_20 rfl rfl ?_
  refine ev_iconst (pc := 73) (v := 0) dM_keep_73 (by decide) ?_
  refine ev_aload_n (pc := 74) dM_keep_74 0 rfl rfl ?_
  refine ev_getR (pc := 75) dM_keep_75 lM_63 rfl rfl ?_
  refine ev_iconst (pc := 78) (v := 5) dM_keep_78 (by decide) ?_
  refine ev_iconst (pc := 79) (v := 5) dM_keep_79 (by decide) ?_
  refine ev_callSv (pc := 80) (As := [.inr 30, .inl 0, .inr 44, .inl 5, .inl 5]) (S := []) (d2 := 0) dM_keep_80 (Or.inl vM_209) zM_copy rfl (Nat.le_of_ble_eq_true rfl) (Nat.le_of_ble_eq_true rfl) rfl rfl (fun p1 hz => cM_copy hz) hs (fun r80 h80 hs => ?_)
  refine ev_aload_n (pc := 83) dM_keep_83 0 rfl rfl ?_
  refine ev_getR (pc := 84) dM_keep_84 lM_23 rfl rfl ?_
  refine ev_iconst (pc := 87) (v := 0) dM_keep_87 (by decide) ?_
  refine ev_aload_n (pc := 88) dM_keep_88 0 rfl rfl ?_
  refine ev_getR (pc := 89) dM_keep_89 lM_63 rfl rfl ?_
  refine ev_bipush (pc := 92) (v := 10) dM_keep_92 (by decide) ?_
  refine ev_iconst (pc := 94) (v := 5) dM_keep_94 (by decide) ?_
  refine ev_callSv (pc := 95) (As := [.inr 31, .inl 0, .inr 44, .inl 10, .inl 5]) (S := []) (d2 := 0) dM_keep_95 (Or.inl vM_209) zM_copy rfl (Nat.le_of_ble_eq_true rfl) (Nat.le_of_ble_eq_true rfl) rfl rfl (fun p1 hz => cM_copy hz) hs (fun r95 h95 hs => ?_)
  refine ev_aload_n (pc := 98) dM_keep_98 0 rfl rfl ?_
  refine ev_getR (pc := 99) dM_keep_99 lM_26 rfl rfl ?_
  refine ev_iconst (pc := 102) (v := 0) dM_keep_102 (by decide) ?_
  refine ev_aload_n (pc := 103) dM_keep_103 0 rfl rfl ?_
  refine ev_getR (pc := 104) dM_keep_104 lM_63 rfl rfl ?_
  refine ev_bipush (pc := 107) (v := 15) dM_keep_107 (by decide) ?_
  refine ev_iconst (pc := 109) (v := 5) dM_keep_109 (by decide) ?_
  refine ev_callSv (pc := 110) (As := [.inr 32, .inl 0, .inr 44, .inl 15, .inl 5]) (S := []) (d2 := 0) dM_keep_110 (Or.inl vM_209) zM_copy rfl (Nat.le_of_ble_eq_true rfl) (Nat.le_of_ble_eq_true rfl) rfl rfl (fun p1 hz => cM_copy hz) hs (fun r110 h110 hs => ?_)
  refine ev_iconst (pc := 113) (v := 0) dM_keep_113 (by decide) ?_
  refine ev_istore_n (pc := 114) (L' := [(0, .inr 28), (1, .inl 0)]) dM_keep_114 rfl rfl (Nat.le_of_ble_eq_true rfl) rfl ?_
  refine cM_keep_L115 (fun h149 hs => ?_) _ _ _ hs
  refine ev_aload_n (pc := 149) dM_keep_149 0 rfl rfl ?_
  refine ev_getR (pc := 150) dM_keep_150 lM_33 rfl rfl ?_
  refine ev_iconst (pc := 153) (v := 0) dM_keep_153 (by decide) ?_
  refine ev_aload_n (pc := 154) dM_keep_154 0 rfl rfl ?_
  refine ev_getR (pc := 155) dM_keep_155 lM_66 rfl rfl ?_
  refine ev_iconst (pc := 158) (v := 0) dM_keep_158 (by decide) ?_
  refine ev_bipush (pc := 159) (v := 30) dM_keep_159 (by decide) ?_
  refine ev_callSv (pc := 161) (As := [.inr 34, .inl 0, .inr 45, .inl 0, .inl 30]) (S := []) (d2 := 0) dM_keep_161 (Or.inl vM_209) zM_copy rfl (Nat.le_of_ble_eq_true rfl) (Nat.le_of_ble_eq_true rfl) rfl rfl (fun p1 hz => cM_copy hz) hs (fun r161 h161 hs => ?_)
  refine ev_aload_n (pc := 164) dM_keep_164 0 rfl rfl ?_
  refine ev_getR (pc := 165) dM_keep_165 lM_39 rfl rfl ?_
  refine ev_iconst (pc := 168) (v := 0) dM_keep_168 (by decide) ?_
  refine ev_aload_n (pc := 169) dM_keep_169 0 rfl rfl ?_
  refine ev_getR (pc := 170) dM_keep_170 lM_66 rfl rfl ?_
  refine ev_bipush (pc := 173) (v := 30) dM_keep_173 (by decide) ?_
  refine ev_bipush (pc := 175) (v := 30) dM_keep_175 (by decide) ?_
  refine ev_callSv (pc := 177) (As := [.inr 36, .inl 0, .inr 45, .inl 30, .inl 30]) (S := []) (d2 := 0) dM_keep_177 (Or.inl vM_209) zM_copy rfl (Nat.le_of_ble_eq_true rfl) (Nat.le_of_ble_eq_true rfl) rfl rfl (fun p1 hz => cM_copy hz) hs (fun r177 h177 hs => ?_)
  refine ev_aload_n (pc := 180) dM_keep_180 0 rfl rfl ?_
  refine ev_getR (pc := 181) dM_keep_181 lM_42 rfl rfl ?_
  refine ev_iconst (pc := 184) (v := 0) dM_keep_184 (by decide) ?_
  refine ev_aload_n (pc := 185) dM_keep_185 0 rfl rfl ?_
  refine ev_getR (pc := 186) dM_keep_186 lM_66 rfl rfl ?_
  refine ev_bipush (pc := 189) (v := 60) dM_keep_189 (by decide) ?_
  refine ev_bipush (pc := 191) (v := 30) dM_keep_191 (by decide) ?_
  refine ev_callSv (pc := 193) (As := [.inr 37, .inl 0, .inr 45, .inl 60, .inl 30]) (S := []) (d2 := 0) dM_keep_193 (Or.inl vM_209) zM_copy rfl (Nat.le_of_ble_eq_true rfl) (Nat.le_of_ble_eq_true rfl) rfl rfl (fun p1 hz => cM_copy hz) hs (fun r193 h193 hs => ?_)
  refine ev_aload_n (pc := 196) dM_keep_196 0 rfl rfl ?_
  refine ev_getR (pc := 197) dM_keep_197 lM_45 rfl rfl ?_
  refine ev_iconst (pc := 200) (v := 0) dM_keep_200 (by decide) ?_
  refine ev_aload_n (pc := 201) dM_keep_201 0 rfl rfl ?_
  refine ev_getR (pc := 202) dM_keep_202 lM_66 rfl rfl ?_
  refine ev_bipush (pc := 205) (v := 90) dM_keep_205 (by decide) ?_
  refine ev_bipush (pc := 207) (v := 30) dM_keep_207 (by decide) ?_
  refine ev_callSv (pc := 209) (As := [.inr 38, .inl 0, .inr 45, .inl 90, .inl 30]) (S := []) (d2 := 0) dM_keep_209 (Or.inl vM_209) zM_copy rfl (Nat.le_of_ble_eq_true rfl) (Nat.le_of_ble_eq_true rfl) rfl rfl (fun p1 hz => cM_copy hz) hs (fun r209 h209 hs => ?_)
  refine ev_aload_n (pc := 212) dM_keep_212 0 rfl rfl ?_
  refine ev_getR (pc := 213) dM_keep_213 lM_48 rfl rfl ?_
  refine ev_iconst (pc := 216) (v := 0) dM_keep_216 (by decide) ?_
  refine ev_aload_n (pc := 217) dM_keep_217 0 rfl rfl ?_
  refine ev_getR (pc := 218) dM_keep_218 lM_66 rfl rfl ?_
  refine ev_bipush (pc := 221) (v := 120) dM_keep_221 (by decide) ?_
  refine ev_bipush (pc := 223) (v := 30) dM_keep_223 (by decide) ?_
  refine ev_callSv (pc := 225) (As := [.inr 39, .inl 0, .inr 45, .inl 120, .inl 30]) (S := []) (d2 := 0) dM_keep_225 (Or.inl vM_209) zM_copy rfl (Nat.le_of_ble_eq_true rfl) (Nat.le_of_ble_eq_true rfl) rfl rfl (fun p1 hz => cM_copy hz) hs (fun r225 h225 hs => ?_)
  refine ev_aload_n (pc := 228) dM_keep_228 0 rfl rfl ?_
  refine ev_getR (pc := 229) dM_keep_229 lM_51 rfl rfl ?_
  refine ev_iconst (pc := 232) (v := 0) dM_keep_232 (by decide) ?_
  refine ev_aload_n (pc := 233) dM_keep_233 0 rfl rfl ?_
  refine ev_getR (pc := 234) dM_keep_234 lM_66 rfl rfl ?_
  refine ev_sipush (pc := 237) (v := 150) dM_keep_237 (by decide) ?_
  refine ev_bipush (pc := 240) (v := 30) dM_keep_240 (by decide) ?_
  refine ev_callSv (pc := 242) (As := [.inr 40, .inl 0, .inr 45, .inl 150, .inl 30]) (S := []) (d2 := 0) dM_keep_242 (Or.inl vM_209) zM_copy rfl (Nat.le_of_ble_eq_true rfl) (Nat.le_of_ble_eq_true rfl) rfl rfl (fun p1 hz => cM_copy hz) hs (fun r242 h242 hs => ?_)
  refine ev_aload_n (pc := 245) dM_keep_245 0 rfl rfl ?_
  refine ev_getR (pc := 246) dM_keep_246 lM_36 rfl rfl ?_
  refine ev_iconst (pc := 249) (v := 0) dM_keep_249 (by decide) ?_
  refine ev_aload_n (pc := 250) dM_keep_250 0 rfl rfl ?_
  refine ev_getR (pc := 251) dM_keep_251 lM_69 rfl rfl ?_
  refine ev_iconst (pc := 254) (v := 0) dM_keep_254 (by decide) ?_
  refine ev_sipush (pc := 255) (v := 240) dM_keep_255 (by decide) ?_
  refine ev_callSv (pc := 258) (As := [.inr 35, .inl 0, .inr 46, .inl 0, .inl 240]) (S := []) (d2 := 0) dM_keep_258 (Or.inl vM_209) zM_copy rfl (Nat.le_of_ble_eq_true rfl) (Nat.le_of_ble_eq_true rfl) rfl rfl (fun p1 hz => cM_copy hz) hs (fun r258 h258 hs => ?_)
  refine ev_aload_n (pc := 261) dM_keep_261 0 rfl rfl ?_
  refine ev_getR (pc := 262) dM_keep_262 lM_54 rfl rfl ?_
  refine ev_iconst (pc := 265) (v := 0) dM_keep_265 (by decide) ?_
  refine ev_aload_n (pc := 266) dM_keep_266 0 rfl rfl ?_
  refine ev_getR (pc := 267) dM_keep_267 lM_72 rfl rfl ?_
  refine ev_iconst (pc := 270) (v := 0) dM_keep_270 (by decide) ?_
  refine ev_bipush (pc := 271) (v := 6) dM_keep_271 (by decide) ?_
  refine ev_callSv (pc := 273) (As := [.inr 41, .inl 0, .inr 47, .inl 0, .inl 6]) (S := []) (d2 := 0) dM_keep_273 (Or.inl vM_209) zM_copy rfl (Nat.le_of_ble_eq_true rfl) (Nat.le_of_ble_eq_true rfl) rfl rfl (fun p1 hz => cM_copy hz) hs (fun r273 h273 hs => ?_)
  refine ev_aload_n (pc := 276) dM_keep_276 0 rfl rfl ?_
  refine ev_getR (pc := 277) dM_keep_277 lM_57 rfl rfl ?_
  refine ev_iconst (pc := 280) (v := 0) dM_keep_280 (by decide) ?_
  refine ev_aload_n (pc := 281) dM_keep_281 0 rfl rfl ?_
  refine ev_getR (pc := 282) dM_keep_282 lM_72 rfl rfl ?_
  refine ev_bipush (pc := 285) (v := 6) dM_keep_285 (by decide) ?_
  refine ev_bipush (pc := 287) (v := 6) dM_keep_287 (by decide) ?_
  refine ev_callSv (pc := 289) (As := [.inr 42, .inl 0, .inr 47, .inl 6, .inl 6]) (S := []) (d2 := 0) dM_keep_289 (Or.inl vM_209) zM_copy rfl (Nat.le_of_ble_eq_true rfl) (Nat.le_of_ble_eq_true rfl) rfl rfl (fun p1 hz => cM_copy hz) hs (fun r289 h289 hs => ?_)
  refine ev_iconst (pc := 292) (v := 1) dM_keep_292 (by decide) ?_
  exact ev_iret rfl dM_keep_293 hs
set_option maxHeartbeats 4000000 in
set_option maxRecDepth 100000 in
theorem cM_back_L120 {k155 : Hp → RO} {post : Int32 → Hp → Prop} (hk155 : ∀  (h : Hp), Sat post (k155 h) → Ev mM_back 1 155 [(0, .inr 28)] [] h post) : ∀ (n : Nat) (x1_120 : Int32) (h120 : Hp), Sat post (fM_back_L120 k155 n x1_120 h120) → Ev mM_back 1 120 [(0, .inr 28), (1, .inl x1_120)] [] h120 post := by
  intro n
  induction n with
  | zero =>
    intro x1_120 h120 hs
    exact False.elim hs
  | succ n ih =>
    intro x1_120 h120 hs
    refine ev_iload_n (pc := 120) dM_back_120 1 rfl rfl ?_
    refine ev_iconst (pc := 121) (v := 5) dM_back_121 (by decide) ?_
    refine ev_icmp_ge (pc := 122) (tgt := 155) dM_back_122 (by decide) hs (fun hs => ?_) (fun hs => ?_)
    · refine ev_sub [(0, .inr 28)] [0] rfl ?_
      exact hk155 _ hs
    · refine ev_aload_n (pc := 125) dM_back_125 0 rfl rfl ?_
      refine ev_getR (pc := 126) dM_back_126 lM_29 rfl rfl ?_
      refine ev_iload_n (pc := 129) dM_back_129 1 rfl rfl ?_
      refine ev_aload_n (pc := 130) dM_back_130 0 rfl rfl ?_
      refine ev_getR (pc := 131) dM_back_131 lM_63 rfl rfl ?_
      refine ev_bipush (pc := 134) (v := 20) dM_back_134 (by decide) ?_
      refine ev_iload_n (pc := 136) dM_back_136 1 rfl rfl ?_
      refine ev_iadd (pc := 137) dM_back_137 ?_
      refine ev_iald (pc := 138) dM_back_138 hs (fun r138 hs => ?_)
      refine ev_iconst (pc := 139) (v := 1) dM_back_139 (by decide) ?_
      refine ev_jn (fun (j : Int32 → Hp → RO) => ∀ (s148 : Int32) (h148 : Hp), Sat post (j s148 h148) → Ev mM_back 1 148 [(0, .inr 28), (1, .inl x1_120)] [.inl s148, .inl x1_120, .inr 33] h148 post) hs (fun s148 h148 hs => ?_) (fun j148 hj148 hs => ?_)
      · refine ev_zast (pc := 148) dM_back_148 hs (fun h148 hs => ?_)
        refine ev_iinc (pc := 149) (L' := [(0, .inr 28), (1, .inl (x1_120 + 1))]) (v := (x1_120 + 1)) dM_back_149 1 rfl (congrArg (HAdd.hAdd _) (by decide)) rfl (Nat.le_of_ble_eq_true rfl) rfl ?_
        refine ev_goto (pc := 152) (tgt := 120) dM_back_152 (by decide) ?_
        exact ih _ _ hs
      refine ev_icmp_ne (pc := 140) (tgt := 147) dM_back_140 (by decide) hs (fun hs => ?_) (fun hs => ?_)
      · refine ev_iconst (pc := 147) (v := 0) dM_back_147 (by decide) ?_
        exact hj148 _ _ hs
      · refine ev_iconst (pc := 143) (v := 1) dM_back_143 (by decide) ?_
        refine ev_goto (pc := 144) (tgt := 148) dM_back_144 (by decide) ?_
        exact hj148 _ _ hs
set_option maxHeartbeats 4000000 in
set_option maxRecDepth 100000 in
theorem cM_back {h0 : Hp}  {post : Int32 → Hp → Prop} (hs : Sat post (fM_back h0 )) : Mt mM_back 1 [.inr 28] h0 post := by
  refine mt_body (L := [(0, .inr 28)]) (by decide +kernel) (Nat.le_of_ble_eq_true rfl) rfl ?_
  refine ev_aload_n (pc := 0) dM_back_0 0 rfl rfl ?_
  refine ev_getI (pc := 1) dM_back_1 lM_205 rfl rfl ?_
  refine ev_if_ne (pc := 4) (tgt := 10) dM_back_4 (by decide) hs (fun hs => ?_) (fun hs => ?_)
  · refine ev_aload_n (pc := 10) dM_back_10 0 rfl rfl ?_
    refine ev_aload_n (pc := 11) dM_back_11 0 rfl rfl ?_
    refine ev_getR (pc := 12) dM_back_12 lM_60 rfl rfl ?_
    refine ev_iconst (pc := 15) (v := 0) dM_back_15 (by decide) ?_
    refine ev_iald (pc := 16) dM_back_16 hs (fun r16 hs => ?_)
    refine ev_putI (pc := 17) dM_back_17 lM_7 w5_0 rfl rfl hs (fun h17 hs => ?_)
    refine ev_aload_n (pc := 20) dM_back_20 0 rfl rfl ?_
    refine ev_aload_n (pc := 21) dM_back_21 0 rfl rfl ?_
    refine ev_getR (pc := 22) dM_back_22 lM_60 rfl rfl ?_
    refine ev_iconst (pc := 25) (v := 1) dM_back_25 (by decide) ?_
    refine ev_iald (pc := 26) dM_back_26 hs (fun r26 hs => ?_)
    refine ev_putI (pc := 27) dM_back_27 lM_13 w5_1 rfl rfl hs (fun h27 hs => ?_)
    refine ev_aload_n (pc := 30) dM_back_30 0 rfl rfl ?_
    refine ev_aload_n (pc := 31) dM_back_31 0 rfl rfl ?_
    refine ev_getR (pc := 32) dM_back_32 lM_60 rfl rfl ?_
    refine ev_iconst (pc := 35) (v := 2) dM_back_35 (by decide) ?_
    refine ev_iald (pc := 36) dM_back_36 hs (fun r36 hs => ?_)
    refine ev_putI (pc := 37) dM_back_37 lM_103 w5_2 rfl rfl hs (fun h37 hs => ?_)
    refine ev_aload_n (pc := 40) dM_back_40 0 rfl rfl ?_
    refine ev_aload_n (pc := 41) dM_back_41 0 rfl rfl ?_
    refine ev_getR (pc := 42) dM_back_42 lM_60 rfl rfl ?_
    refine ev_iconst (pc := 45) (v := 3) dM_back_45 (by decide) ?_
    refine ev_iald (pc := 46) dM_back_46 hs (fun r46 hs => ?_)
    refine ev_putI (pc := 47) dM_back_47 lM_96 w5_8 rfl rfl hs (fun h47 hs => ?_)
    refine ev_aload_n (pc := 50) dM_back_50 0 rfl rfl ?_
    refine ev_aload_n (pc := 51) dM_back_51 0 rfl rfl ?_
    refine ev_getR (pc := 52) dM_back_52 lM_60 rfl rfl ?_
    refine ev_iconst (pc := 55) (v := 4) dM_back_55 (by decide) ?_
    refine ev_iald (pc := 56) dM_back_56 hs (fun r56 hs => ?_)
    refine ev_putI (pc := 57) dM_back_57 lM_120 w5_16 rfl rfl hs (fun h57 hs => ?_)
    refine ev_aload_n (pc := 60) dM_back_60 0 rfl rfl ?_
    refine ev_getR (pc := 61) dM_back_61 lM_63 rfl rfl ?_
    refine ev_iconst (pc := 64) (v := 0) dM_back_64 (by decide) ?_
    refine ev_aload_n (pc := 65) dM_back_65 0 rfl rfl ?_
    refine ev_getR (pc := 66) dM_back_66 lM_16 rfl rfl ?_
    refine ev_iconst (pc := 69) (v := 0) dM_back_69 (by decide) ?_
    refine ev_iconst (pc := 70) (v := 5) dM_back_70 (by decide) ?_
    refine ev_callSv (pc := 71) (As := [.inr 44, .inl 0, .inr 29, .inl 0, .inl 5]) (S := []) (d2 := 0) dM_back_71 (Or.inl vM_209) zM_copy rfl (Nat.le_of_ble_eq_true rfl) (Nat.le_of_ble_eq_true rfl) rfl rfl (fun p1 hz => cM_copy hz) hs (fun r71 h71 hs => ?_)
    refine ev_aload_n (pc := 74) dM_back_74 0 rfl rfl ?_
    refine ev_getR (pc := 75) dM_back_75 lM_63 rfl rfl ?_
    refine ev_iconst (pc := 78) (v := 5) dM_back_78 (by decide) ?_
    refine ev_aload_n (pc := 79) dM_back_79 0 rfl rfl ?_
    refine ev_getR (pc := 80) dM_back_80 lM_20 rfl rfl ?_
    refine ev_iconst (pc := 83) (v := 0) dM_back_83 (by decide) ?_
    refine ev_iconst (pc := 84) (v := 5) dM_back_84 (by decide) ?_
    refine ev_callSv (pc := 85) (As := [.inr 44, .inl 5, .inr 30, .inl 0, .inl 5]) (S := []) (d2 := 0) dM_back_85 (Or.inl vM_209) zM_copy rfl (Nat.le_of_ble_eq_true rfl) (Nat.le_of_ble_eq_true rfl) rfl rfl (fun p1 hz => cM_copy hz) hs (fun r85 h85 hs => ?_)
    refine ev_aload_n (pc := 88) dM_back_88 0 rfl rfl ?_
    refine ev_getR (pc := 89) dM_back_89 lM_63 rfl rfl ?_
    refine ev_bipush (pc := 92) (v := 10) dM_back_92 (by decide) ?_
    refine ev_aload_n (pc := 94) dM_back_94 0 rfl rfl ?_
    refine ev_getR (pc := 95) dM_back_95 lM_23 rfl rfl ?_
    refine ev_iconst (pc := 98) (v := 0) dM_back_98 (by decide) ?_
    refine ev_iconst (pc := 99) (v := 5) dM_back_99 (by decide) ?_
    refine ev_callSv (pc := 100) (As := [.inr 44, .inl 10, .inr 31, .inl 0, .inl 5]) (S := []) (d2 := 0) dM_back_100 (Or.inl vM_209) zM_copy rfl (Nat.le_of_ble_eq_true rfl) (Nat.le_of_ble_eq_true rfl) rfl rfl (fun p1 hz => cM_copy hz) hs (fun r100 h100 hs => ?_)
    refine ev_aload_n (pc := 103) dM_back_103 0 rfl rfl ?_
    refine ev_getR (pc := 104) dM_back_104 lM_63 rfl rfl ?_
    refine ev_bipush (pc := 107) (v := 15) dM_back_107 (by decide) ?_
    refine ev_aload_n (pc := 109) dM_back_109 0 rfl rfl ?_
    refine ev_getR (pc := 110) dM_back_110 lM_26 rfl rfl ?_
    refine ev_iconst (pc := 113) (v := 0) dM_back_113 (by decide) ?_
    refine ev_iconst (pc := 114) (v := 5) dM_back_114 (by decide) ?_
    refine ev_callSv (pc := 115) (As := [.inr 44, .inl 15, .inr 32, .inl 0, .inl 5]) (S := []) (d2 := 0) dM_back_115 (Or.inl vM_209) zM_copy rfl (Nat.le_of_ble_eq_true rfl) (Nat.le_of_ble_eq_true rfl) rfl rfl (fun p1 hz => cM_copy hz) hs (fun r115 h115 hs => ?_)
    refine ev_iconst (pc := 118) (v := 0) dM_back_118 (by decide) ?_
    refine ev_istore_n (pc := 119) (L' := [(0, .inr 28), (1, .inl 0)]) dM_back_119 rfl rfl (Nat.le_of_ble_eq_true rfl) rfl ?_
    refine cM_back_L120 (fun h155 hs => ?_) _ _ _ hs
    refine ev_aload_n (pc := 155) dM_back_155 0 rfl rfl ?_
    refine ev_getR (pc := 156) dM_back_156 lM_66 rfl rfl ?_
    refine ev_iconst (pc := 159) (v := 0) dM_back_159 (by decide) ?_
    refine ev_aload_n (pc := 160) dM_back_160 0 rfl rfl ?_
    refine ev_getR (pc := 161) dM_back_161 lM_33 rfl rfl ?_
    refine ev_iconst (pc := 164) (v := 0) dM_back_164 (by decide) ?_
    refine ev_bipush (pc := 165) (v := 30) dM_back_165 (by decide) ?_
    refine ev_callSv (pc := 167) (As := [.inr 45, .inl 0, .inr 34, .inl 0, .inl 30]) (S := []) (d2 := 0) dM_back_167 (Or.inl vM_209) zM_copy rfl (Nat.le_of_ble_eq_true rfl) (Nat.le_of_ble_eq_true rfl) rfl rfl (fun p1 hz => cM_copy hz) hs (fun r167 h167 hs => ?_)
    refine ev_aload_n (pc := 170) dM_back_170 0 rfl rfl ?_
    refine ev_getR (pc := 171) dM_back_171 lM_66 rfl rfl ?_
    refine ev_bipush (pc := 174) (v := 30) dM_back_174 (by decide) ?_
    refine ev_aload_n (pc := 176) dM_back_176 0 rfl rfl ?_
    refine ev_getR (pc := 177) dM_back_177 lM_39 rfl rfl ?_
    refine ev_iconst (pc := 180) (v := 0) dM_back_180 (by decide) ?_
    refine ev_bipush (pc := 181) (v := 30) dM_back_181 (by decide) ?_
    refine ev_callSv (pc := 183) (As := [.inr 45, .inl 30, .inr 36, .inl 0, .inl 30]) (S := []) (d2 := 0) dM_back_183 (Or.inl vM_209) zM_copy rfl (Nat.le_of_ble_eq_true rfl) (Nat.le_of_ble_eq_true rfl) rfl rfl (fun p1 hz => cM_copy hz) hs (fun r183 h183 hs => ?_)
    refine ev_aload_n (pc := 186) dM_back_186 0 rfl rfl ?_
    refine ev_getR (pc := 187) dM_back_187 lM_66 rfl rfl ?_
    refine ev_bipush (pc := 190) (v := 60) dM_back_190 (by decide) ?_
    refine ev_aload_n (pc := 192) dM_back_192 0 rfl rfl ?_
    refine ev_getR (pc := 193) dM_back_193 lM_42 rfl rfl ?_
    refine ev_iconst (pc := 196) (v := 0) dM_back_196 (by decide) ?_
    refine ev_bipush (pc := 197) (v := 30) dM_back_197 (by decide) ?_
    refine ev_callSv (pc := 199) (As := [.inr 45, .inl 60, .inr 37, .inl 0, .inl 30]) (S := []) (d2 := 0) dM_back_199 (Or.inl vM_209) zM_copy rfl (Nat.le_of_ble_eq_true rfl) (Nat.le_of_ble_eq_true rfl) rfl rfl (fun p1 hz => cM_copy hz) hs (fun r199 h199 hs => ?_)
    refine ev_aload_n (pc := 202) dM_back_202 0 rfl rfl ?_
    refine ev_getR (pc := 203) dM_back_203 lM_66 rfl rfl ?_
    refine ev_bipush (pc := 206) (v := 90) dM_back_206 (by decide) ?_
    refine ev_aload_n (pc := 208) dM_back_208 0 rfl rfl ?_
    refine ev_getR (pc := 209) dM_back_209 lM_45 rfl rfl ?_
    refine ev_iconst (pc := 212) (v := 0) dM_back_212 (by decide) ?_
    refine ev_bipush (pc := 213) (v := 30) dM_back_213 (by decide) ?_
    refine ev_callSv (pc := 215) (As := [.inr 45, .inl 90, .inr 38, .inl 0, .inl 30]) (S := []) (d2 := 0) dM_back_215 (Or.inl vM_209) zM_copy rfl (Nat.le_of_ble_eq_true rfl) (Nat.le_of_ble_eq_true rfl) rfl rfl (fun p1 hz => cM_copy hz) hs (fun r215 h215 hs => ?_)
    refine ev_aload_n (pc := 218) dM_back_218 0 rfl rfl ?_
    refine ev_getR (pc := 219) dM_back_219 lM_66 rfl rfl ?_
    refine ev_bipush (pc := 222) (v := 120) dM_back_222 (by decide) ?_
    refine ev_aload_n (pc := 224) dM_back_224 0 rfl rfl ?_
    refine ev_getR (pc := 225) dM_back_225 lM_48 rfl rfl ?_
    refine ev_iconst (pc := 228) (v := 0) dM_back_228 (by decide) ?_
    refine ev_bipush (pc := 229) (v := 30) dM_back_229 (by decide) ?_
    refine ev_callSv (pc := 231) (As := [.inr 45, .inl 120, .inr 39, .inl 0, .inl 30]) (S := []) (d2 := 0) dM_back_231 (Or.inl vM_209) zM_copy rfl (Nat.le_of_ble_eq_true rfl) (Nat.le_of_ble_eq_true rfl) rfl rfl (fun p1 hz => cM_copy hz) hs (fun r231 h231 hs => ?_)
    refine ev_aload_n (pc := 234) dM_back_234 0 rfl rfl ?_
    refine ev_getR (pc := 235) dM_back_235 lM_66 rfl rfl ?_
    refine ev_sipush (pc := 238) (v := 150) dM_back_238 (by decide) ?_
    refine ev_aload_n (pc := 241) dM_back_241 0 rfl rfl ?_
    refine ev_getR (pc := 242) dM_back_242 lM_51 rfl rfl ?_
    refine ev_iconst (pc := 245) (v := 0) dM_back_245 (by decide) ?_
    refine ev_bipush (pc := 246) (v := 30) dM_back_246 (by decide) ?_
    refine ev_callSv (pc := 248) (As := [.inr 45, .inl 150, .inr 40, .inl 0, .inl 30]) (S := []) (d2 := 0) dM_back_248 (Or.inl vM_209) zM_copy rfl (Nat.le_of_ble_eq_true rfl) (Nat.le_of_ble_eq_true rfl) rfl rfl (fun p1 hz => cM_copy hz) hs (fun r248 h248 hs => ?_)
    refine ev_aload_n (pc := 251) dM_back_251 0 rfl rfl ?_
    refine ev_getR (pc := 252) dM_back_252 lM_69 rfl rfl ?_
    refine ev_iconst (pc := 255) (v := 0) dM_back_255 (by decide) ?_
    refine ev_aload_n (pc := 256) dM_back_256 0 rfl rfl ?_
    refine ev_getR (pc := 257) dM_back_257 lM_36 rfl rfl ?_
    refine ev_iconst (pc := 260) (v := 0) dM_back_260 (by decide) ?_
    refine ev_sipush (pc := 261) (v := 240) dM_back_261 (by decide) ?_
    refine ev_callSv (pc := 264) (As := [.inr 46, .inl 0, .inr 35, .inl 0, .inl 240]) (S := []) (d2 := 0) dM_back_264 (Or.inl vM_209) zM_copy rfl (Nat.le_of_ble_eq_true rfl) (Nat.le_of_ble_eq_true rfl) rfl rfl (fun p1 hz => cM_copy hz) hs (fun r264 h264 hs => ?_)
    refine ev_aload_n (pc := 267) dM_back_267 0 rfl rfl ?_
    refine ev_getR (pc := 268) dM_back_268 lM_72 rfl rfl ?_
    refine ev_iconst (pc := 271) (v := 0) dM_back_271 (by decide) ?_
    refine ev_aload_n (pc := 272) dM_back_272 0 rfl rfl ?_
    refine ev_getR (pc := 273) dM_back_273 lM_54 rfl rfl ?_
    refine ev_iconst (pc := 276) (v := 0) dM_back_276 (by decide) ?_
    refine ev_bipush (pc := 277) (v := 6) dM_back_277 (by decide) ?_
    refine ev_callSv (pc := 279) (As := [.inr 47, .inl 0, .inr 41, .inl 0, .inl 6]) (S := []) (d2 := 0) dM_back_279 (Or.inl vM_209) zM_copy rfl (Nat.le_of_ble_eq_true rfl) (Nat.le_of_ble_eq_true rfl) rfl rfl (fun p1 hz => cM_copy hz) hs (fun r279 h279 hs => ?_)
    refine ev_aload_n (pc := 282) dM_back_282 0 rfl rfl ?_
    refine ev_getR (pc := 283) dM_back_283 lM_72 rfl rfl ?_
    refine ev_bipush (pc := 286) (v := 6) dM_back_286 (by decide) ?_
    refine ev_aload_n (pc := 288) dM_back_288 0 rfl rfl ?_
    refine ev_getR (pc := 289) dM_back_289 lM_57 rfl rfl ?_
    refine ev_iconst (pc := 292) (v := 0) dM_back_292 (by decide) ?_
    refine ev_bipush (pc := 293) (v := 6) dM_back_293 (by decide) ?_
    refine ev_callSv (pc := 295) (As := [.inr 47, .inl 6, .inr 42, .inl 0, .inl 6]) (S := []) (d2 := 0) dM_back_295 (Or.inl vM_209) zM_copy rfl (Nat.le_of_ble_eq_true rfl) (Nat.le_of_ble_eq_true rfl) rfl rfl (fun p1 hz => cM_copy hz) hs (fun r295 h295 hs => ?_)
    refine ev_iconst (pc := 298) (v := 1) dM_back_298 (by decide) ?_
    exact ev_iret rfl dM_back_299 hs
  · refine ev_bipush (pc := 7) (v := (-4)) dM_back_7 (by decide) ?_
    exact ev_iret rfl dM_back_9 hs
