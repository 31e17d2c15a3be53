/-! THE CALL piece: the reference, and that both agree -/
section Ops9
variable {X : Sg → Hp → Prop} {σ : Sg} {h : Hp}
theorem MS.ext {τ : Sg} (m : MS σ h) (e0 : ∀ i, i < 5 → σ 0 i = τ 0 i) (e1 : ∀ k j, 1 ≤ k → k ≤ 14 → j < alen (28 + k) → σ k j = τ k j) : MS τ h := ⟨fun i hi => by rw [← e0 i hi]; exact m.1 i hi, fun k k1 k2 j hj => by rw [← e1 k j k1 k2 hj]; exact m.2 k k1 k2 j hj⟩
/-- i marks of the copy that comes are hidden -/
def mk8 (τ : Sg) (q i : Nat) : Sg := fun a b => if a = 7 ∧ 8 * q ≤ b ∧ b < 8 * q + i then 2 else τ a b
theorem mk8_at (τ : Sg) (q i a b : Nat) : mk8 τ q i a b = if a = 7 ∧ 8 * q ≤ b ∧ b < 8 * q + i then 2 else τ a b := rfl
theorem mk8_k (τ : Sg) (q i : Nat) {a b : Nat} (ha : a ≠ 7) : mk8 τ q i a b = τ a b := by rw [mk8_at, if_neg (by omega)]
theorem m_marks {τ : Sg} {K : Hp → RO} {P : RO → Prop} {x1 x2 x4 : Int32} {q : Nat} (hq : q < 30) {u : Hp} (hu : MS τ u) (hc : τ 0 3 = q) (fm : FrM h u) (hK : ∀ v, MS (mk8 τ q 8) v → FrM h v → P (K v)) : P (fM_piece_L121 K x1 x2 x4 FU 0 u) := by
  refine loopK (fun n (a : Int32 × Hp) => fM_piece_L121 K x1 x2 x4 n a.1 a.2) (fun i a => a.1 = nI i ∧ MS (mk8 τ q i) a.2 ∧ FrM h a.2) P 8 (by decide) ?_ ?_ 0 (0, u) (by decide) ⟨rfl, hu.ext (fun i hi => by rw [mk8_at, if_neg (by omega)]) (fun k j _ _ _ => by rw [mk8_at, if_neg (by omega)]), fm⟩
  · rintro i ⟨x, v⟩ n hi ⟨e, mv, fv⟩ ih
    dsimp only at e mv fv
    subst e
    simp only [fM_piece_L121]
    have e3 : v 28 8 = nI q := by rw [mv.nc, mk8_k _ _ _ (by decide), hc]
    rw [if_neg (fun q => by have := (n_le (X := 8) (a := 8) rfl rfl (by omega) (by omega)).mp q; omega), e3, wr_at (8 * q + i) 240 rfl (n_ix' (Mm := 8) rfl rfl) (by omega), n_s1]
    refine ih (nI (i + 1), up v 35 (8 * q + i) 2) ⟨rfl, (mv.put 7 (8 * q + i) 2 (by decide) (by decide)).ext (fun y hy => ?_) (fun k j _ _ _ => ?_), fm_trans fv (fm_put (by decide) (by decide))⟩
    · rw [us_k _ (by decide), mk8_k _ _ _ (by decide), mk8_k _ _ _ (by decide)]
    · by_cases hk : k = 7 ∧ j = 8 * q + i
      · rw [hk.1, hk.2, us_s, mk8_at, if_pos (by omega)]
      · unfold us
        rw [if_neg hk, mk8_at, mk8_at]
        by_cases h2 : k = 7 ∧ 8 * q ≤ j ∧ j < 8 * q + i
        · rw [if_pos h2, if_pos (by omega)]
        · rw [if_neg h2, if_neg (by omega)]
  · rintro ⟨x, v⟩ n ⟨e, mv, fv⟩
    dsimp only at e mv fv
    subst e
    simp only [fM_piece_L121]
    rw [if_pos (by decide)]
    exact hK v mv fv
theorem m_copies {r c mg : Nat} {K : Hp → RO} {P : RO → Prop} (h30 : σ 0 3 + r * c ≤ 30) {u : Hp} (hu : MS (pK σ r c mg 0) u) (fm : FrM h u) (hK : ∀ v, MS (pK σ r c mg (r * c)) v → FrM h v → P (K v)) : P (fM_piece_L97 K (nI r) (nI c) FU 0 u) := by
  refine loopK (fun n (a : Int32 × Hp) => fM_piece_L97 K (nI r) (nI c) n a.1 a.2) (fun k a => a.1 = nI k ∧ MS (pK σ r c mg k) a.2 ∧ FrM h a.2) P (r * c) (by omega) ?_ ?_ 0 (0, u) (by omega) ⟨rfl, hu, fm⟩
  · rintro k ⟨x, v⟩ n hk ⟨e, mv, fv⟩ ih
    dsimp only at e mv fv
    subst e
    simp only [fM_piece_L97, pt]
    have e3 : v 28 8 = nI (σ 0 3 + k) := by rw [mv.nc, pK_0, if_pos rfl]
    have e2 : v 28 2 = nI (σ 0 2) := by rw [mv.np, pK_0, if_neg (by decide)]
    rw [n_mul, if_neg (fun q => by have := (n_le rfl rfl (by omega) (by omega)).mp q; omega), wr_at (σ 0 3 + k) 30 rfl e3 (by omega), e2]
    have m1 := mv.put 6 (σ 0 3 + k) (σ 0 2) (by decide) (by decide)
    refine m_marks (h := h) (q := σ 0 3 + k) (by omega) m1 (by rw [us_k _ (by decide), pK_0, if_pos rfl]) (fm_trans fv (fm_put (by decide) (by decide))) (fun v1 m2 f2 => ?_)
    have c1 : ∀ u : Hp, u 28 = v1 28 → u 28 8 = nI (σ 0 3 + k) := fun u hu => by
      rw [hu, m2.nc, mk8_k _ _ _ (by decide), us_k _ (by decide), pK_0, if_pos rfl]
    have m3 := ((((m2.put 8 (σ 0 3 + k) 0 (by decide) (by decide)).put 9 (σ 0 3 + k) 0 (by decide) (by decide)).put 10 (σ 0 3 + k) 0 (by decide) (by decide)).put 11 (σ 0 3 + k) 0 (by decide) (by decide)).put 12 (σ 0 3 + k) 0 (by decide) (by decide)
    have m4 := m3.num 3 (σ 0 3 + k + 1) (by decide)
    have z8 : enc 8 0 = -1 := by decide
    have z9 : enc 9 0 = -1 := by decide
    have z11 : enc 11 0 = -1 := by decide
    have z10 : enc 10 0 = 0 := by decide
    have z12 : enc 12 0 = 0 := by decide
    rw [z8, z9, z10, z11, z12] at m4
    rw [wr_at (σ 0 3 + k) 30 rfl (c1 v1 rfl) (by omega), wr_at (σ 0 3 + k) 30 rfl (c1 _ (up_ne _ (by decide) _ _)) (by omega), wr_at (σ 0 3 + k) 30 rfl (c1 _ (by rw [up_ne _ (by decide), up_ne _ (by decide)])) (by omega), wr_at (σ 0 3 + k) 30 rfl (c1 _ (by rw [up_ne _ (by decide), up_ne _ (by decide), up_ne _ (by decide)])) (by omega), wr_at (σ 0 3 + k) 30 rfl (c1 _ (by rw [up_ne _ (by decide), up_ne _ (by decide), up_ne _ (by decide), up_ne _ (by decide)])) (by omega)]
    rw [c1 (up (up (up (up (up v1 36 (σ 0 3 + k) (-1)) 37 (σ 0 3 + k) (-1)) 38 (σ 0 3 + k) 0) 39 (σ 0 3 + k) (-1)) 40 (σ 0 3 + k) 0) (by rw [up_ne _ (by decide), up_ne _ (by decide), up_ne _ (by decide), up_ne _ (by decide), up_ne _ (by decide)]), n_s1, n_s1]
    refine ih (nI (k + 1), _) ⟨rfl, m4.ext (fun y hy => ?_) (fun a b a1 a2 _ => ?_), ?_⟩
    · by_cases h3 : y = 3
      · subst h3; rw [us_s, pK_0, if_pos rfl]; omega
      · rw [us_j _ h3, us_k _ (by decide), us_k _ (by decide), us_k _ (by decide), us_k _ (by decide), us_k _ (by decide), mk8_k _ _ _ (by decide), us_k _ (by decide), pK_0, pK_0, if_neg h3, if_neg h3]
    · rw [us_k _ (by omega)]
      rcases (show a ≤ 5 ∨ 13 ≤ a ∨ a = 7 ∨ (6 ≤ a ∧ a ≤ 12 ∧ a ≠ 7) by omega) with ha | ha | rfl | ⟨q1, q2, q3⟩
      · rw [us_k _ (by omega), us_k _ (by omega), us_k _ (by omega), us_k _ (by omega), us_k _ (by omega), mk8_k _ _ _ (by omega), us_k _ (by omega)]
        have h0 : ¬ a = 0 := by omega
        unfold pK
        rw [if_neg h0, if_neg h0, if_pos ha, if_pos ha]
      · rw [us_k _ (by omega), us_k _ (by omega), us_k _ (by omega), us_k _ (by omega), us_k _ (by omega), mk8_k _ _ _ (by omega), us_k _ (by omega), pK_b ha, pK_b ha]
      · rw [us_k _ (by decide), us_k _ (by decide), us_k _ (by decide), us_k _ (by decide), us_k _ (by decide), mk8_at, us_k _ (by decide), pK_7, pK_7]
        by_cases h1 : 7 = 7 ∧ 8 * (σ 0 3 + k) ≤ b ∧ b < 8 * (σ 0 3 + k) + 8
        · rw [if_pos h1, if_pos (by omega)]
        · rw [if_neg h1]
          by_cases h2 : 8 * σ 0 3 ≤ b ∧ b < 8 * (σ 0 3 + k)
          · rw [if_pos h2, if_pos (by omega)]
          · rw [if_neg h2, if_neg (by omega)]
      · rw [pK_c q1 q2 q3]
        by_cases hb : b = σ 0 3 + k
        · subst hb
          rw [if_pos (by omega)]
          rcases (show a = 6 ∨ a = 8 ∨ a = 9 ∨ a = 10 ∨ a = 11 ∨ a = 12 by omega) with rfl | rfl | rfl | rfl | rfl | rfl
          · rw [us_k _ (by decide), us_k _ (by decide), us_k _ (by decide), us_k _ (by decide), us_k _ (by decide), mk8_k _ _ _ (by decide), us_s, if_pos rfl]
          · rw [us_k _ (by decide), us_k _ (by decide), us_k _ (by decide), us_k _ (by decide), us_s, if_neg (by decide)]
          · rw [us_k _ (by decide), us_k _ (by decide), us_k _ (by decide), us_s, if_neg (by decide)]
          · rw [us_k _ (by decide), us_k _ (by decide), us_s, if_neg (by decide)]
          · rw [us_k _ (by decide), us_s, if_neg (by decide)]
          · rw [us_s, if_neg (by decide)]
        · rw [us_j _ hb, us_j _ hb, us_j _ hb, us_j _ hb, us_j _ hb, mk8_k _ _ _ q3, us_j _ hb, pK_c q1 q2 q3]
          by_cases h2 : σ 0 3 ≤ b ∧ b < σ 0 3 + k
          · rw [if_pos h2, if_pos (show σ 0 3 ≤ b ∧ b < σ 0 3 + (k + 1) by omega)]
          · rw [if_neg h2, if_neg (show ¬ (σ 0 3 ≤ b ∧ b < σ 0 3 + (k + 1)) by omega)]
    · exact fm_trans (fm_trans (fm_trans (fm_trans (fm_trans (fm_trans f2 (fm_put (by decide) (by decide))) (fm_put (by decide) (by decide))) (fm_put (by decide) (by decide))) (fm_put (by decide) (by decide))) (fm_put (by decide) (by decide))) (fm_num (by decide))
  · rintro ⟨x, v⟩ n ⟨e, mv, fv⟩
    dsimp only at e mv fv
    subst e
    simp only [fM_piece_L97]
    rw [n_mul, if_pos (Int32.le_refl _)]
    exact hK v mv fv
theorem ag_piece (a b d : Int32) : Agr (InvX X) (fun h => fX_piece h a b d) (fun h => fM_piece h a b d) := by
  rintro h ⟨σ, w, ms, cs, kp, ho, ch⟩
  have hnp := w.1.2.2.2.2.2.1
  have inv : InvX X h := ⟨σ, w, ms, cs, kp, ho, ch⟩
  dsimp only
  cases hr : wn a 1 2 with
  | false => exact ⟨-1, h, h, by unfold fX_piece; rw [isWithin_eq, cal_some, if_b0, hr]; rfl, by unfold fM_piece; rw [in_eq, cal_some, if_b0, hr]; rfl, inv⟩
  | true =>
    cases hc : wn b 1 3 with
    | false => exact ⟨-1, h, h, by unfold fX_piece; rw [isWithin_eq, cal_some, if_b0, hr, cond_true, isWithin_eq, cal_some, if_b0, hc]; rfl, by unfold fM_piece; rw [in_eq, cal_some, if_b0, hr, cond_true, in_eq, cal_some, if_b0, hc]; rfl, inv⟩
    | true =>
      cases hm : wn d 0 15 with
      | false => exact ⟨-1, h, h, by unfold fX_piece; rw [isWithin_eq, cal_some, if_b0, hr, cond_true, isWithin_eq, cal_some, if_b0, hc, cond_true, isWithin_eq, cal_some, if_b0, hm]; rfl, by unfold fM_piece; rw [in_eq, cal_some, if_b0, hr, cond_true, in_eq, cal_some, if_b0, hc, cond_true, in_eq, cal_some, if_b0, hm]; rfl, inv⟩
      | true =>
        have e2 := cs.1 2 (by decide)
        by_cases h5 : σ 0 2 = 5
        · exact ⟨-2, h, h, by unfold fX_piece; rw [isWithin_eq, cal_some, if_b0, hr, cond_true, isWithin_eq, cal_some, if_b0, hc, cond_true, isWithin_eq, cal_some, if_b0, hm, cond_true, if_neg (by rw [e2, h5]; decide)]; rfl, by unfold fM_piece; rw [in_eq, cal_some, if_b0, hr, cond_true, in_eq, cal_some, if_b0, hc, cond_true, in_eq, cal_some, if_b0, hm, cond_true, if_pos (by rw [ms.np, h5]; decide)]; rfl, inv⟩
        · have hr0 := hr
          have hc0 := hc
          have hm0 := hm
          obtain ⟨r, r1, r2, rfl⟩ := (wn_nat (A := 1) (B := 2) (a := 1) (b := 2) rfl rfl (by omega) (by omega)).mp hr
          obtain ⟨c, c1, c2, rfl⟩ := (wn_nat (A := 1) (B := 3) (a := 1) (b := 3) rfl rfl (by omega) (by omega)).mp hc
          obtain ⟨mg, -, m2, rfl⟩ := (wn_nat (A := 0) (B := 15) (a := 0) (b := 15) rfl rfl (by omega) (by omega)).mp hm
          have h30 : σ 0 3 + r * c ≤ 30 := by
            have hrc6 : r * c ≤ 2 * 3 := Nat.mul_le_mul r2 c2
            have := (wf_pS (r := r) (c := c) (mg := mg) w (by omega) r1 r2 c1 c2 m2).nc_le
            rwa [pS_03] at this
          obtain ⟨u, eu, cu, fx, hst⟩ := x_piece (r := r) (c := c) (mg := mg) w cs (by omega) r1 r2 c1 c2 m2
          have ms1 := ms_x ms fx
          have ex : fX_piece h (nI r) (nI c) (nI mg) = some (nI (σ 0 2), u) := by
            unfold fX_piece
            rw [isWithin_eq, cal_some, if_b0, hr0, cond_true, isWithin_eq, cal_some, if_b0, hc0, cond_true, isWithin_eq, cal_some, if_b0, hm0, cond_true, if_pos (by rw [e2]; exact (n_lt (Y := 5) (b := 5) rfl rfl (by omega) (by omega)).mpr (by omega)), forget_eq, cal_some, eu]
            rfl
          have em : ∃ v, fM_piece u (nI r) (nI c) (nI mg) = some (nI (σ 0 2), v) ∧ MS (pS σ r c mg) v ∧ FrM u v := by
            unfold fM_piece
            simp only [pt]
            rw [in_eq, cal_some, if_b0, hr0, cond_true, in_eq, cal_some, if_b0, hc0, cond_true, in_eq, cal_some, if_b0, hm0, cond_true, if_neg (by rw [ms1.np]; exact fun q => h5 ((n_eq (Y := 5) (b := 5) rfl rfl (by omega) (by omega)).mp q))]
            have n2 : ∀ v : Hp, v 28 = u 28 → v 28 2 = nI (σ 0 2) ∧ v 28 8 = nI (σ 0 3) := fun v hv => by rw [hv]; exact ⟨ms1.np, ms1.nc⟩
            rw [wr_at (σ 0 2) 5 rfl (n2 u rfl).1 (by omega), wr_at (σ 0 2) 5 rfl (n2 _ (up_ne _ (by decide) _ _)).1 (by omega), wr_at (σ 0 2) 5 rfl (n2 _ (by rw [up_ne _ (by decide), up_ne _ (by decide)])).1 (by omega), wr_at (σ 0 2) 5 rfl (n2 _ (by rw [up_ne _ (by decide), up_ne _ (by decide), up_ne _ (by decide)])).1 (by omega), wrz_at (σ 0 2) 5 rfl (n2 _ (by rw [up_ne _ (by decide), up_ne _ (by decide), up_ne _ (by decide), up_ne _ (by decide)])).1 (by omega) (Or.inl rfl)]
            rw [(n2 (up (up (up u 29 (σ 0 2) (nI r)) 30 (σ 0 2) (nI c)) 31 (σ 0 2) (nI mg)) (by rw [up_ne _ (by decide), up_ne _ (by decide), up_ne _ (by decide)])).2]
            have m5 := ((((ms1.put 1 (σ 0 2) r (by decide) (by decide)).put 2 (σ 0 2) c (by decide) (by decide)).put 3 (σ 0 2) mg (by decide) (by decide)).put 4 (σ 0 2) (σ 0 3) (by decide) (by decide)).put 5 (σ 0 2) 0 (by decide) (by decide)
            refine m_copies (P := fun o : RO => ∃ v, o = some (nI (σ 0 2), v) ∧ MS (pS σ r c mg) v ∧ FrM u v) (σ := σ) (mg := mg) (h := u) h30 (m5.ext (fun i hi => ?_) (fun k j k1 k2 _ => ?_)) ?_ (fun v mv fv => ?_)
            · rw [us_k _ (by decide), us_k _ (by decide), us_k _ (by decide), us_k _ (by decide), us_k _ (by decide), pK_0]
              split
              · rename_i q; rw [q, Nat.add_zero]
              · rfl
            · unfold us
              rcases (show k = 1 ∨ k = 2 ∨ k = 3 ∨ k = 4 ∨ k = 5 ∨ k = 7 ∨ (6 ≤ k ∧ k ≤ 12 ∧ k ≠ 7) ∨ 13 ≤ k by omega) with rfl | rfl | rfl | rfl | rfl | rfl | ⟨q1, q2, q3⟩ | hk
              · simp [pK]
              · simp [pK]
              · simp [pK]
              · simp [pK]
              · simp [pK]
              · rw [pK_7, if_neg (show ¬ (8 * σ 0 3 ≤ j ∧ j < 8 * (σ 0 3 + 0)) by omega)]; simp
              · rw [pK_c q1 q2 q3, if_neg (show ¬ (σ 0 3 ≤ j ∧ j < σ 0 3 + 0) by omega), if_neg (by omega), if_neg (by omega), if_neg (by omega), if_neg (by omega), if_neg (by omega)]
              · rw [pK_b hk, if_neg (by omega), if_neg (by omega), if_neg (by omega), if_neg (by omega), if_neg (by omega)]
            · exact fm_trans (fm_trans (fm_trans (fm_trans (fm_put (by decide) (by decide)) (fm_put (by decide) (by decide))) (fm_put (by decide) (by decide))) (fm_put (by decide) (by decide))) (fm_put (by decide) (by decide))
            · have en : v 28 2 = nI (σ 0 2) := by rw [mv.np, pK_0, if_neg (by decide)]
              refine ⟨up v 28 2 (nI (σ 0 2 + 1)), ?_, mv.num 2 (σ 0 2 + 1) (by decide), fm_trans fv (fm_num (by decide))⟩
              rw [en, n_s1, up_k, upd_same, nI_pred]
              rfl
          obtain ⟨v, ev, mv, fv⟩ := em
          refine ⟨_, u, v, ex, ev, inv_told kp fx (wf_pS w (by omega) r1 r2 c1 c2 m2) cu hst fv mv (fun p hp => ?_)⟩
          rw [pS_k (by decide)]
          by_cases q : p = σ 0 2
          · rw [q, pK_5]; omega
          · rw [pK_p (by decide) (by decide) q]; exact ho p hp
end Ops9
