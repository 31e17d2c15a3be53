/-! THE CALLS free, out, of, told, mark -/
theorem clr_256 : ∀ a, a < 256 → ∀ m, m < 8 → nI a &&& (nI (2 ^ m) ^^^ (-1)) = nI (a &&& (255 ^^^ 2 ^ m)) := by decide +kernel
theorem clr_bit : ∀ m, m < 8 → ∀ i, i < 8 → (255 ^^^ 2 ^ m).testBit i = !(i == m) := by decide +kernel
theorem pow_bit : ∀ m, m < 8 → ∀ i, i < 8 → (2 ^ m).testBit i = (i == m) := by decide +kernel
section Ops4
variable {X : Sg → Hp → Prop} {σ σ' : Sg} {h : Hp}
theorem ag_free : Agr (InvX X) (fun h => fX_free h) (fun h => fM_free h) := by
  rintro h ⟨σ, w, ms, cs, kp, ho, ch⟩
  have hnb := w.1.2.2.2.2.2.2
  dsimp only
  have e1 := cs.1 4 (by decide)
  have cs0 := cs_stale cs
  have ex : fX_free h = some (nI (σ 0 4), up (flh (up h 3 2 1) 8 0 0 8) 1 4 0) := by
    unfold fX_free fT_freeBars
    simp only [bnd, pt]
    rw [forget_eq, cal_some, fill_eq (k := 8) (n := 8) rfl, cal_some, up_ne h (by decide), e1]
    rfl
  have fx1 : FrX (up h 3 2 1) (flh (up h 3 2 1) 8 0 0 8) := ⟨fun a ha => flh_ne _ (by omega) _ _ _, flh_ne _ (by omega) _ _ _, flh_ne _ (by omega) _ _ _, flh_ne _ (by omega) _ _ _, flh_ne _ (by omega) _ _ _, fun b _ => by rw [flh_ne _ (by omega)]⟩
  have fx : FrX h (up (flh (up h 3 2 1) 8 0 0 8) 1 4 0) := fx_trans (fx_trans fx_stale fx1) (fx_put (by omega))
  have hst : up (flh (up h 3 2 1) 8 0 0 8) 1 4 0 3 2 = 1 := by rw [up_ne _ (by decide), flh_ne _ (by decide)]; exact stale_1
  have sk : ∀ k, k ≠ 0 → us σ 0 4 0 k = σ k := fun k hk => us_f σ 4 0 hk
  have s4 : us σ 0 4 0 0 4 = 0 := us_s σ 0 4 0
  have sj : ∀ i, i ≠ 4 → us σ 0 4 0 0 i = σ 0 i := fun i hi => us_j σ hi
  have cs1 : CS (us σ 0 4 0) (up (flh (up h 3 2 1) 8 0 0 8) 1 4 0) := by
    refine ⟨fun i hi => ?_, fun p w' hp hw' => ?_, fun q w' hq hw' => ?_, fun m hm => ?_⟩
    · rw [up_k, flh_ne _ (by decide), up_ne _ (by decide)]
      by_cases h4 : i = 4
      · subst h4; rw [upd_same, s4]; rfl
      · rw [upd_ne h4, sj i h4]; exact cs.1 i hi
    · rw [sj 2 (by decide)] at hp
      rw [up_ne _ (by decide), flh_ne _ (by decide), up_ne _ (by decide), show pcF (us σ 0 4 0) p w' = pcF σ p w' by unfold pcF sz; rw [sk 1 (by decide), sk 2 (by decide), sk 3 (by decide), sk 4 (by decide), sk 5 (by decide)]]
      exact cs.2.1 p w' hp hw'
    · rw [sj 3 (by decide)] at hq
      rw [up_ne _ (by decide), flh_ne _ (by decide), up_ne _ (by decide), show cpF (us σ 0 4 0) q w' = cpF σ q w' by unfold cpF rw_ cl_ thM ntM; rw [sk 2 (by decide), sk 4 (by decide), sk 6 (by decide), sk 7 (by decide), sk 8 (by decide), sk 9 (by decide), sk 10 (by decide), sk 11 (by decide), sk 12 (by decide)]]
      exact cs.2.2.1 q w' hq hw'
    · rw [up_ne _ (by decide), flh_k, if_pos (by omega)]
      have : brM (us σ 0 4 0) m = 0 := by
        unfold brM brd
        rw [s4]
        rfl
      rw [this]
      rfl
  have wf : WF (us σ 0 4 0) := by
    obtain ⟨w1, w2, w3, w4, w5, w6⟩ := w
    unfold WF sz
    rw [sk 1 (by decide), sk 2 (by decide), sk 3 (by decide), sk 4 (by decide), sk 5 (by decide), sk 6 (by decide), sk 7 (by decide), sk 8 (by decide), sk 9 (by decide), sk 10 (by decide), sk 11 (by decide), sk 12 (by decide), sk 13 (by decide), sk 14 (by decide), sj 0 (by decide), sj 1 (by decide), sj 2 (by decide), sj 3 (by decide), s4]
    exact ⟨⟨w1.1, w1.2.1, w1.2.2.1, w1.2.2.2.1, w1.2.2.2.2.1, w1.2.2.2.2.2.1, by omega⟩, w2, w3, w4, w5, fun k hk => by omega⟩
  generalize hh1 : up (flh (up h 3 2 1) 8 0 0 8) 1 4 0 = h1 at fx hst cs1 ex
  have ms1 := ms_x ms fx
  refine ⟨nI (σ 0 4), h1, up h1 28 16 0, ex, ?_, inv_told kp fx wf cs1 hst (fm_num (by decide)) (ms1.num 4 0 (by decide)) (fun p hp => by rw [sk 5 (by decide)]; exact ho p hp)⟩
  unfold fM_free
  simp only [bnd, pt]
  rw [ms1.nb]
  rfl
theorem ag_out (hX : XOk X) (a b : Int32) (hb : b = 0 ∨ b = 1) : Agr (InvX X) (fun h => fX_out h a b) (fun h => fM_out h a b) := by
  rintro h ⟨σ, w, ms, cs, kp, ho, ch⟩
  have hnp := w.1.2.2.2.2.2.1
  have inv : InvX X h := ⟨σ, w, ms, cs, kp, ho, ch⟩
  dsimp only
  cases hc : wn a 0 (nI (σ 0 2) - 1) with
  | false => exact ⟨-1, h, h, by unfold fX_out; rw [hasPiece_eq cs, cal_some, if_b0, hc]; rfl, by unfold fM_out; rw [mpiece_eq ms, cal_some, if_b0, hc]; rfl, inv⟩
  | true =>
    have hc0 := hc
    obtain ⟨p, hp, rfl⟩ := (wn_cnt (by omega)).mp hc
    obtain ⟨v, hv, rfl⟩ : ∃ v, v ≤ 1 ∧ b = nI v := hb.elim (fun e => ⟨0, by decide, e⟩) (fun e => ⟨1, by decide, e⟩)
    have h5 := (w.2.1 p hp).2.2.2.2.2
    have eo : fT_isOut h (nI p) = some (nI (σ 5 p), h) := by
      unfold fT_isOut
      rw [pieceFact_eq (W := 5) (w := 5) w cs hp rfl (by decide), cal_some]
      show (if nI (σ 5 p) = 1 then _ else _) = _
      rcases (show σ 5 p = 0 ∨ σ 5 p = 1 by omega) with e | e
      · rw [e, if_neg (by decide)]; rfl
      · rw [e, if_pos (by decide)]; rfl
    have e0 : (nI (σ 5 p) = nI v) ↔ σ 5 p = v := nI_eq (by omega) (by omega)
    by_cases he : σ 5 p = v
    · have hus : us σ 5 p v = σ := by
        funext x y
        unfold us
        split
        · rename_i q; rw [q.1, q.2, he]
        · rfl
      refine ⟨0, h, up h 33 p (nI v), ?_, ?_, σ, w, ?_, ?_, ?_, ho, ?_⟩
      · unfold fX_out
        rw [hasPiece_eq cs, cal_some, if_b0, hc0, cond_true, eo, cal_some, if_pos (e0.mpr he)]
        rfl
      · unfold fM_out
        simp only [jn]
        rw [mpiece_eq ms, cal_some, if_b0, hc0, cond_true, rdz_at p 5 rfl rfl (by omega), ms.a5 (by omega), if_pos (e0.mpr he), wrz_at p 5 rfl rfl (by omega) hb]
        rfl
      · have := ms.put 5 p v (by decide) (by decide)
        rwa [hus] at this
      · exact cs.congr (fun i _ => by rw [up_ne h (by decide)]) (up_ne h (by decide) _ _) (up_ne h (by decide) _ _) (up_ne h (by decide) _ _)
      · exact kp.congr (by rw [up_ne h (by decide)]) (by rw [up_ne h (by decide)]) (up_ne h (by decide) _ _) (fun c _ _ => up_ne h (by omega) _ _) (fun c _ _ => up_ne h (by omega) _ _)
      · rw [up_ne h (by decide)]
        rcases ch with q | ⟨q, qx⟩
        · exact Or.inl q
        · exact Or.inr ⟨q, hX σ σ h _ qx (fun _ _ => rfl) (fun k _ _ => up_ne h (by omega) _ _)⟩
    · have fx : FrX h (up (up h 6 (6 * p + 5) (nI v)) 3 2 1) := fx_trans (fx_put (by omega)) fx_stale
      have hst : up (up h 6 (6 * p + 5) (nI v)) 3 2 1 3 2 = 1 := stale_1
      have sk : ∀ k, k ≠ 5 → us σ 5 p v k = σ k := fun k hk => us_f σ p v hk
      have cs1 : CS (us σ 5 p v) (up (up h 6 (6 * p + 5) (nI v)) 3 2 1) := by
        apply cs_stale
        refine ⟨fun i hi => ?_, fun p' w' hp' hw' => ?_, fun q w' hq hw' => ?_, fun m hm => ?_⟩
        · rw [up_ne _ (by decide), sk 0 (by decide)]; exact cs.1 i hi
        · rw [sk 0 (by decide)] at hp'
          rw [up_k]
          have hpc := cs.2.1 p' w' hp' hw'
          by_cases he2 : 6 * p' + w' = 6 * p + 5
          · rw [he2, upd_same, show p' = p by omega, show w' = 5 by omega]
            show nI v = nI (us σ 5 p v 5 p)
            rw [us_s]
          · rw [upd_ne he2, hpc]
            congr 1
            unfold pcF sz
            rw [sk 1 (by decide), sk 2 (by decide), sk 3 (by decide), sk 4 (by decide)]
            rcases (show w' = 0 ∨ w' = 1 ∨ w' = 2 ∨ w' = 3 ∨ w' = 4 ∨ w' = 5 by omega) with rfl | rfl | rfl | rfl | rfl | rfl
            · rfl
            · rfl
            · rfl
            · rfl
            · rfl
            · exact (us_j σ (show p' ≠ p by omega)).symm
        · rw [sk 0 (by decide)] at hq
          rw [up_ne _ (by decide), show cpF (us σ 5 p v) q w' = cpF σ q w' by unfold cpF rw_ cl_ thM ntM; rw [sk 2 (by decide), sk 4 (by decide), sk 6 (by decide), sk 7 (by decide), sk 8 (by decide), sk 9 (by decide), sk 10 (by decide), sk 11 (by decide), sk 12 (by decide)]]
          exact cs.2.2.1 q w' hq hw'
        · rw [up_ne _ (by decide), brM_us (by decide) (by decide) (by decide)]; exact cs.2.2.2 m hm
      have wf : WF (us σ 5 p v) := by
        obtain ⟨w1, w2, w3, w4, w5, w6⟩ := w
        unfold WF sz
        rw [sk 0 (by decide), sk 1 (by decide), sk 2 (by decide), sk 3 (by decide), sk 4 (by decide), sk 6 (by decide), sk 7 (by decide), sk 8 (by decide), sk 9 (by decide), sk 10 (by decide), sk 11 (by decide), sk 12 (by decide), sk 13 (by decide), sk 14 (by decide)]
        refine ⟨w1, fun q hq => ?_, w3, w4, w5, w6⟩
        obtain ⟨a1, a2, a3, a4, a5, a6⟩ := w2 q hq
        refine ⟨a1, a2, a3, a4, a5, ?_⟩
        by_cases hqp : q = p
        · subst hqp; rw [us_s]; exact hv
        · rw [us_j σ hqp]; exact a6
      generalize hh1 : up (up h 6 (6 * p + 5) (nI v)) 3 2 1 = h1 at fx hst cs1
      have ms1 := ms_x ms fx
      refine ⟨1, h1, up h1 33 p (nI v), ?_, ?_, inv_told kp fx wf cs1 hst (fm_put (by decide) (by decide)) (ms1.put 5 p v (by decide) (by decide)) (fun q hq => ?_)⟩
      · unfold fX_out fT_putOut
        simp only [jn]
        rw [hasPiece_eq cs, cal_some, if_b0, hc0, cond_true, eo, cal_some, if_neg (fun q => he (e0.mp q))]
        rw [show (if nI v = 0 then wr h 6 (nI p * 6 + 5) 0 (fun h19 => ret1 0 h19) else wr h 6 (nI p * 6 + 5) 1 (fun h19 => ret1 0 h19)) = wr h 6 (nI p * 6 + 5) (nI v) (fun h19 => ret1 0 h19) by
          rcases (show v = 0 ∨ v = 1 by omega) with rfl | rfl
          · rw [if_pos (by decide)]; rfl
          · rw [if_neg (by decide)]; rfl]
        rw [wr_at (6 * p + 5) 30 rfl (n_ix (Mm := 6) rfl (show (5 : Int32) = nI 5 from rfl)) (by omega)]
        simp only [ret1, cal_some]
        rw [forget_eq, cal_some, hh1]
      · unfold fM_out
        simp only [jn]
        rw [mpiece_eq ms1, cal_some, if_b0, hc0, cond_true, rdz_at p 5 rfl rfl (by omega), ms1.a5 (by omega), if_neg (fun q => he (e0.mp q)), wrz_at p 5 rfl rfl (by omega) hb]
        rfl
      · by_cases hqp : q = p
        · subst hqp; rw [us_s]; exact hv
        · rw [us_j σ hqp]; exact ho q hq
theorem ag_of (a b : Int32) : Agr (InvX X) (fun h => fX_of h a b) (fun h => fM_of h a b) := by
  rintro h ⟨σ, w, ms, cs, kp, ho, ch⟩
  have hnc := w.nc_le
  have inv : InvX X h := ⟨σ, w, ms, cs, kp, ho, ch⟩
  dsimp only
  cases hc : wn a 0 (nI (σ 0 3) - 1) with
  | false => exact ⟨-1000, h, h, by unfold fX_of; rw [hasCopy_eq cs, cal_some, if_b0, hc]; rfl, by unfold fM_of; rw [mcopy_eq ms, cal_some, if_b0, hc]; rfl, inv⟩
  | true =>
    have hc0 := hc
    obtain ⟨c, hcn, rfl⟩ := (wn_cnt (by omega)).mp hc
    cases hv : wn b 0 15 with
    | false => exact ⟨-1000, h, h, by unfold fX_of; rw [hasCopy_eq cs, cal_some, if_b0, hc0, cond_true, isWithin_eq, cal_some, if_b0, hv]; rfl, by unfold fM_of; rw [mcopy_eq ms, cal_some, if_b0, hc0, cond_true, in_eq, cal_some, if_b0, hv]; rfl, inv⟩
    | true =>
      have hv0 := hv
      obtain ⟨t, -, htn, rfl⟩ := (wn_nat (A := 0) (B := 15) (a := 0) (b := 15) rfl rfl (by omega) (by omega)).mp hv
      rcases Nat.lt_or_ge t 8 with h8 | h8
      · refine ⟨cpF σ c t, h, h, ?_, ?_, inv⟩
        · unfold fX_of
          rw [hasCopy_eq cs, cal_some, if_b0, hc0, cond_true, isWithin_eq, cal_some, if_b0, hv0, cond_true, if_pos ((n_lt (Y := 8) (b := 8) rfl rfl (by omega) (by omega)).mpr h8), copyFact_eq (w := t) w cs hcn rfl (by omega)]
          rfl
        · unfold fM_of
          rw [mcopy_eq ms, cal_some, if_b0, hc0, cond_true, in_eq, cal_some, if_b0, hv0, cond_true]
          rcases (show t = 0 ∨ t = 1 ∨ t = 2 ∨ t = 3 ∨ t = 4 ∨ t = 5 ∨ t = 6 ∨ t = 7 by omega) with rfl | rfl | rfl | rfl | rfl | rfl | rfl | rfl
          · rw [swf_at (i := 0) (j := 0) (by decide) rfl, rd_at c 30 rfl rfl (by omega), ms.a6 (by omega)]; rfl
          · rw [swf_at (i := 0) (j := 1) (by decide) rfl, rowOf_eq w ms hcn]; rfl
          · rw [swf_at (i := 0) (j := 2) (by decide) rfl, colOf_eq w ms hcn]; rfl
          · rw [swf_at (i := 0) (j := 3) (by decide) rfl, rd_at c 30 rfl rfl (by omega), ms.a8 (by omega)]; rfl
          · rw [swf_at (i := 0) (j := 4) (by decide) rfl, rd_at c 30 rfl rfl (by omega), ms.a9 (by omega)]; rfl
          · rw [swf_at (i := 0) (j := 5) (by decide) rfl, rd_at c 30 rfl rfl (by omega), ms.a10 (by omega)]; rfl
          · rw [swf_at (i := 0) (j := 6) (by decide) rfl, rd_at c 30 rfl rfl (by omega), ms.a11 (by omega)]; rfl
          · rw [swf_at (i := 0) (j := 7) (by decide) rfl, rd_at c 30 rfl rfl (by omega), ms.a12 (by omega)]; rfl
      · refine ⟨nI (σ 7 (8 * c + (t - 8))), h, h, ?_, ?_, inv⟩
        · unfold fX_of
          rw [hasCopy_eq cs, cal_some, if_b0, hc0, cond_true, isWithin_eq, cal_some, if_b0, hv0, cond_true, if_neg (fun q => by have := (n_lt (Y := 8) (b := 8) rfl rfl (by omega) (by omega)).mp q; omega), show nI t - 8 = nI (t - 8) from pk_sub (b := 8) h8, markOf_eq w cs hcn (by omega)]
          rfl
        · unfold fM_of
          rw [mcopy_eq ms, cal_some, if_b0, hc0, cond_true, in_eq, cal_some, if_b0, hv0, cond_true, swf_out (fun j hj q => by
            have hj8 : j < 8 := hj
            have := (nI_eq (by omega) (by omega)).mp q
            omega), n_ix' (Mm := 8) rfl rfl, show nI (8 * c + t) - 8 = nI (8 * c + (t - 8)) by rw [show (8 : Int32) = nI 8 from rfl, pk_sub (by omega)]; congr 1; omega, rd_at (8 * c + (t - 8)) 240 rfl rfl (by omega), ms.a7 (by omega)]
          rfl
theorem ag_told (a b : Int32) : Agr (InvX X) (fun h => fX_told h a b) (fun h => fM_told h a b) := by
  rintro h ⟨σ, w, ms, cs, kp, ho, ch⟩
  have hnp := w.1.2.2.2.2.2.1
  have inv : InvX X h := ⟨σ, w, ms, cs, kp, ho, ch⟩
  dsimp only
  cases hc : wn a 0 (nI (σ 0 2) - 1) with
  | false => exact ⟨-1, h, h, by unfold fX_told; rw [hasPiece_eq cs, cal_some, if_b0, hc]; rfl, by unfold fM_told; rw [mpiece_eq ms, cal_some, if_b0, hc]; rfl, inv⟩
  | true =>
    have hc0 := hc
    obtain ⟨p, hp, rfl⟩ := (wn_cnt (by omega)).mp hc
    cases hv : wn b 0 5 with
    | false => exact ⟨-1, h, h, by unfold fX_told; rw [hasPiece_eq cs, cal_some, if_b0, hc0, cond_true, isWithin_eq, cal_some, if_b0, hv]; rfl, by unfold fM_told; rw [mpiece_eq ms, cal_some, if_b0, hc0, cond_true, in_eq, cal_some, if_b0, hv]; rfl, inv⟩
    | true =>
      have hv0 := hv
      obtain ⟨t, -, htn, rfl⟩ := (wn_nat (A := 0) (B := 5) (a := 0) (b := 5) rfl rfl (by omega) (by omega)).mp hv
      have eX : fX_told h (nI p) (nI t) = (if nI t = 4 then cal (fT_isForged h (nI p)) (fun r32 h32 => if r32 = 0 then ret1 0 h32 else ret1 1 h32) else if nI t = 5 then cal (fT_takesPart h (nI p)) (fun r54 h54 => if r54 = 0 then ret1 0 h54 else ret1 1 h54) else cal (fT_pieceFact h (nI p) (nI t)) (fun r72 h72 => ret1 r72 h72)) := by
        unfold fX_told
        rw [hasPiece_eq cs, cal_some, if_b0, hc0, cond_true, isWithin_eq, cal_some, if_b0, hv0, cond_true]
      have eb : ∀ (bb : Bool) (u : Hp), (if bI bb = 0 then ret1 0 u else ret1 1 u) = some (bI bb, u) := fun bb u => by cases bb <;> rfl
      rcases (show t = 0 ∨ t = 1 ∨ t = 2 ∨ t = 3 ∨ t = 4 ∨ t = 5 by omega) with rfl | rfl | rfl | rfl | rfl | rfl
      · exact ⟨nI (σ 1 p), h, h, by rw [eX, if_neg (by decide), if_neg (by decide), pieceFact_eq (w := 0) w cs hp rfl (by decide)]; rfl, by unfold fM_told; rw [mpiece_eq ms, cal_some, if_b0, hc0, cond_true, in_eq, cal_some, if_b0, hv0, cond_true, swf_at (i := 0) (j := 0) (by decide) rfl, rd_at p 5 rfl rfl (by omega), ms.a1 (by omega)]; rfl, inv⟩
      · exact ⟨nI (σ 2 p), h, h, by rw [eX, if_neg (by decide), if_neg (by decide), pieceFact_eq (w := 1) w cs hp rfl (by decide)]; rfl, by unfold fM_told; rw [mpiece_eq ms, cal_some, if_b0, hc0, cond_true, in_eq, cal_some, if_b0, hv0, cond_true, swf_at (i := 0) (j := 1) (by decide) rfl, rd_at p 5 rfl rfl (by omega), ms.a2 (by omega)]; rfl, inv⟩
      · exact ⟨nI (σ 3 p), h, h, by rw [eX, if_neg (by decide), if_neg (by decide), pieceFact_eq (w := 2) w cs hp rfl (by decide)]; rfl, by unfold fM_told; rw [mpiece_eq ms, cal_some, if_b0, hc0, cond_true, in_eq, cal_some, if_b0, hv0, cond_true, swf_at (i := 0) (j := 2) (by decide) rfl, rd_at p 5 rfl rfl (by omega), ms.a3 (by omega)]; rfl, inv⟩
      · exact ⟨nI (σ 4 p), h, h, by rw [eX, if_neg (by decide), if_neg (by decide), pieceFact_eq (w := 3) w cs hp rfl (by decide)]; rfl, by unfold fM_told; rw [mpiece_eq ms, cal_some, if_b0, hc0, cond_true, in_eq, cal_some, if_b0, hv0, cond_true, swf_at (i := 0) (j := 3) (by decide) rfl, rd_at p 5 rfl rfl (by omega), ms.a4 (by omega)]; rfl, inv⟩
      · exact ⟨bI (fgP σ p), h, h, by rw [eX, if_pos (by decide), isForged_eq w cs hp, cal_some, eb], by unfold fM_told; rw [mpiece_eq ms, cal_some, if_b0, hc0, cond_true, in_eq, cal_some, if_b0, hv0, cond_true, swf_at (i := 0) (j := 4) (by decide) rfl, mforged_eq w ms hp, cal_some, eb], inv⟩
      · exact ⟨bI (tk σ p), h, h, by rw [eX, if_neg (by decide), if_pos (by decide), takesPart_eq w cs hp, cal_some, eb], by unfold fM_told; rw [mpiece_eq ms, cal_some, if_b0, hc0, cond_true, in_eq, cal_some, if_b0, hv0, cond_true, swf_out (fun j hj q => by
            have hj8 : j < 5 := hj
            have := (nI_eq (by omega) (by omega)).mp q
            omega), mtakes_eq w ms hp, cal_some, eb], inv⟩
end Ops4
