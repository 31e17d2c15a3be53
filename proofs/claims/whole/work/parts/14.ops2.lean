/-! THE CALLS that tell numbers of copies: wear, dated, letter -/
def Agr (Inv : Hp → Prop) (o1 o2 : Hp → RO) : Prop := ∀ h, Inv h → ∃ (r : Int32) (h1 h2 : Hp), o1 h = some (r, h1) ∧ o2 h1 = some (r, h2) ∧ Inv h2
/-- what the search holds doesn't hang on wear, days and shades -/
def XOk (X : Sg → Hp → Prop) : Prop := ∀ (σ σ' : Sg) (h h' : Hp), X σ h → (∀ k, k < 10 ∨ 12 < k → σ' k = σ k) → (∀ k, (k = 3 ∨ 12 ≤ k) → k < 27 → h' k = h k) → X σ' h'
section Ops2
variable {X : Sg → Hp → Prop}
theorem wn_neg {x : Int32} {n : Nat} {A B : Int32} (hA : A = -1) (hB : B.toInt = (n : Int) - 1) (hn : n < 2 ^ 30) : wn x A B = true ↔ ∃ j : Nat, j ≤ n ∧ x = nI j - 1 := by
  subst hA
  unfold wn
  rw [Bool.and_eq_true, decide_eq_true_eq, decide_eq_true_eq, Int32.le_iff_toInt_le, Int32.le_iff_toInt_le, hB]
  have hm : (-1 : Int32).toInt = -1 := by decide
  rw [hm]
  constructor
  · rintro ⟨h1, h2⟩
    refine ⟨(x.toInt + 1).toNat, by omega, ?_⟩
    apply Int32.toInt_inj.mp
    have e := pk_sub_toInt (a := (x.toInt + 1).toNat) (b := 1) (by omega) (by omega)
    rw [show (1 : Int32) = nI 1 from rfl, e]
    omega
  · rintro ⟨j, h1, rfl⟩
    have e := pk_sub_toInt (a := j) (b := 1) (by omega) (by omega)
    rw [show (1 : Int32) = nI 1 from rfl, e]
    omega
theorem ag_wear (hX : XOk X) (a b : Int32) : Agr (InvX X) (fun h => fX_wear h a b) (fun h => fM_wear h a b) := by
  rintro h ⟨σ, w, ms, cs, kp, ho, ch⟩
  have hnc := w.nc_le
  have inv : InvX X h := ⟨σ, w, ms, cs, kp, ho, ch⟩
  dsimp only
  cases hc : wn a 0 (nI (σ 0 3) - 1) with
  | false =>
    refine ⟨-1, h, h, ?_, ?_, inv⟩
    · unfold fX_wear; rw [hasCopy_eq cs, cal_some, if_b0, hc]; rfl
    · unfold fM_wear; rw [mcopy_eq ms, cal_some, if_b0, hc]; rfl
  | true =>
    have hc0 := hc
    obtain ⟨c, hcn, rfl⟩ := (wn_cnt (by omega)).mp hc
    cases hv : wn b 0 99 with
    | false =>
      refine ⟨-1, h, h, ?_, ?_, inv⟩
      · unfold fX_wear; rw [hasCopy_eq cs, cal_some, if_b0, hc0, cond_true, isWithin_eq, cal_some, if_b0, hv]; rfl
      · unfold fM_wear; rw [mcopy_eq ms, cal_some, if_b0, hc0, cond_true, in_eq, cal_some, if_b0, hv]; rfl
    | true =>
      have hv0 := hv
      obtain ⟨v, -, hvn, rfl⟩ := (wn_nat (A := 0) (B := 99) (a := 0) (b := 99) rfl rfl (by omega) (by omega)).mp hv
      have fx : FrX h (up h 7 (10 * c + 5) (nI v)) := fx_put (by omega)
      have ms1 := ms_x ms fx
      have cs1 : CS (us σ 10 c v) (up h 7 (10 * c + 5) (nI v)) := cs_putC cs (by decide) (fun i _ => us_k σ (by decide)) (fun p w' _ _ => pcF_us (by decide)) (fun q w' _ hw' => cpF_us (k := 10) (by decide) (by decide) hw') (fun m _ => brM_us (by decide) (by decide) (by decide))
      have fm : FrM (up h 7 (10 * c + 5) (nI v)) (up (up h 7 (10 * c + 5) (nI v)) 38 c (nI v)) := fm_put (by decide) (by decide)
      refine ⟨nI (σ 10 c), up h 7 (10 * c + 5) (nI v), up (up h 7 (10 * c + 5) (nI v)) 38 c (nI v), ?_, ?_, us σ 10 c v, wf_us w (by decide) (by decide) (by simpa using hvn), ms1.put 10 c v (by decide) (by decide), ?_, ?_, fun p hp => by rw [us_k σ (by decide)]; exact ho p hp, ?_⟩
      · unfold fX_wear
        rw [hasCopy_eq cs, cal_some, if_b0, hc0, cond_true, isWithin_eq, cal_some, if_b0, hv0, cond_true, copyFact_eq (W := 5) (w := 5) w cs hcn rfl (by decide), cal_some, putCF_eq (W := 5) (w := 5) w hcn rfl (by decide)]
        rfl
      · unfold fM_wear
        rw [mcopy_eq ms1, cal_some, if_b0, hc0, cond_true, in_eq, cal_some, if_b0, hv0, cond_true, rd_at c 30 rfl rfl (by omega), ms1.a10 (by omega), wr_at c 30 rfl rfl (by omega)]
        rfl
      · exact cs1.congr (fun i _ => by rw [fm.1 1 (by decide)]) (fm.1 6 (by decide)) (fm.1 7 (by decide)) (fm.1 8 (by decide))
      · exact kp.congr (by rw [fm.1 0 (by decide), fx.2.1]) (by rw [fm.2.1, fx.1 28 (by decide)]) (by rw [fm.1 2 (by decide), fx.2.2.1]) (fun c c1 c2 => by rw [fm.1 c (by omega), fx.1 c c1]) (fun c c1 c2 => by rw [fm.2.2 c c1 c2, fx.1 c (by omega)])
      · have e3 : ∀ k, (k = 3 ∨ 12 ≤ k) → k < 27 → up (up h 7 (10 * c + 5) (nI v)) 38 c (nI v) k = h k := fun k k1 k2 => by rw [up_ne _ (by omega), up_ne _ (by omega)]
        rcases ch with q | ⟨q, qx⟩
        · exact Or.inl (by rw [e3 3 (by decide) (by decide)]; exact q)
        · exact Or.inr ⟨by rw [e3 3 (by decide) (by decide)]; exact q, hX σ _ h _ qx (fun k hk => us_f σ c v (by omega)) e3⟩
theorem ag_dated (hX : XOk X) (a b d : Int32) : Agr (InvX X) (fun h => fX_dated h a b d) (fun h => fM_dated h a b d) := by
  rintro h ⟨σ, w, ms, cs, kp, ho, ch⟩
  have hnc := w.nc_le
  have inv : InvX X h := ⟨σ, w, ms, cs, kp, ho, ch⟩
  dsimp only
  cases hc : wn a 0 (nI (σ 0 3) - 1) with
  | false =>
    refine ⟨-1, h, h, ?_, ?_, inv⟩
    · unfold fX_dated; rw [hasCopy_eq cs, cal_some, if_b0, hc]; rfl
    · unfold fM_dated; rw [mcopy_eq ms, cal_some, if_b0, hc]; rfl
  | true =>
    have hc0 := hc
    obtain ⟨c, hcn, rfl⟩ := (wn_cnt (by omega)).mp hc
    cases hv : wn b (-1) 999 with
    | false =>
      refine ⟨-1, h, h, ?_, ?_, inv⟩
      · unfold fX_dated; rw [hasCopy_eq cs, cal_some, if_b0, hc0, cond_true, isWithin_eq, cal_some, if_b0, hv]; rfl
      · unfold fM_dated; rw [mcopy_eq ms, cal_some, if_b0, hc0, cond_true, in_eq, cal_some, if_b0, hv]; rfl
    | true =>
      have hv0 := hv
      obtain ⟨v, hvn, rfl⟩ := (wn_neg (n := 1000) rfl (by decide) (by decide)).mp hv
      cases hs : wn d 0 5 with
      | false =>
        refine ⟨-1, h, h, ?_, ?_, inv⟩
        · unfold fX_dated; rw [hasCopy_eq cs, cal_some, if_b0, hc0, cond_true, isWithin_eq, cal_some, if_b0, hv0, cond_true, isShade_eq, cal_some, if_b0, hs]; rfl
        · unfold fM_dated; rw [mcopy_eq ms, cal_some, if_b0, hc0, cond_true, in_eq, cal_some, if_b0, hv0, cond_true, in_eq, cal_some, if_b0, hs]; rfl
      | true =>
        have hs0 := hs
        obtain ⟨s, -, hsn, rfl⟩ := (wn_nat (A := 0) (B := 5) (a := 0) (b := 5) rfl rfl (by omega) (by omega)).mp hs
        have cs1 : CS (us σ 11 c v) (up h 7 (10 * c + 6) (nI v - 1)) := cs_putC cs (by decide) (fun i _ => us_k σ (by decide)) (fun p w' _ _ => pcF_us (by decide)) (fun q w' _ hw' => cpF_us (k := 11) (by decide) (by decide) hw') (fun m _ => brM_us (by decide) (by decide) (by decide))
        have w1 : WF (us σ 11 c v) := wf_us w (by decide) (by decide) (by simpa using hvn)
        have cs2 : CS (us (us σ 11 c v) 12 c s) (up (up h 7 (10 * c + 6) (nI v - 1)) 7 (10 * c + 7) (nI s)) := cs_putC cs1 (by decide) (fun i _ => us_k _ (by decide)) (fun p w' _ _ => pcF_us (by decide)) (fun q w' _ hw' => cpF_us (k := 12) (by decide) (by decide) hw') (fun m _ => brM_us (by decide) (by decide) (by decide))
        have w2 : WF (us (us σ 11 c v) 12 c s) := wf_us w1 (by decide) (by decide) (by simpa using hsn)
        have fx : FrX h (up (up h 7 (10 * c + 6) (nI v - 1)) 7 (10 * c + 7) (nI s)) := fx_trans (fx_put (by omega)) (fx_put (by omega))
        generalize hh1 : up (up h 7 (10 * c + 6) (nI v - 1)) 7 (10 * c + 7) (nI s) = h1 at cs2 fx
        have ms1 := ms_x ms fx
        have fm : FrM h1 (up (up h1 39 c (nI v - 1)) 40 c (nI s)) := fm_trans (fm_put (by decide) (by decide)) (fm_put (by decide) (by decide))
        refine ⟨1, h1, up (up h1 39 c (nI v - 1)) 40 c (nI s), ?_, ?_, us (us σ 11 c v) 12 c s, w2, (ms1.put 11 c v (by decide) (by decide)).put 12 c s (by decide) (by decide), ?_, ?_, fun p hp => by rw [us_k _ (by decide), us_k σ (by decide)]; exact ho p hp, ?_⟩
        · unfold fX_dated
          rw [hasCopy_eq cs, cal_some, if_b0, hc0, cond_true, isWithin_eq, cal_some, if_b0, hv0, cond_true, isShade_eq, cal_some, if_b0, hs0, cond_true, putCF_eq (W := 6) (w := 6) w hcn rfl (by decide), cal_some, putCF_eq (W := 7) (w := 7) w hcn rfl (by decide), cal_some, hh1]
          rfl
        · unfold fM_dated
          rw [mcopy_eq ms1, cal_some, if_b0, hc0, cond_true, in_eq, cal_some, if_b0, hv0, cond_true, in_eq, cal_some, if_b0, hs0, cond_true, wr_at c 30 rfl rfl (by omega), wr_at c 30 rfl rfl (by omega)]
          rfl
        · exact cs2.congr (fun i _ => by rw [fm.1 1 (by decide)]) (fm.1 6 (by decide)) (fm.1 7 (by decide)) (fm.1 8 (by decide))
        · exact kp.congr (by rw [fm.1 0 (by decide), fx.2.1]) (by rw [fm.2.1, fx.1 28 (by decide)]) (by rw [fm.1 2 (by decide), fx.2.2.1]) (fun c c1 c2 => by rw [fm.1 c (by omega), fx.1 c c1]) (fun c c1 c2 => by rw [fm.2.2 c c1 c2, fx.1 c (by omega)])
        · have e3 : ∀ k, (k = 3 ∨ 12 ≤ k) → k < 27 → up (up h1 39 c (nI v - 1)) 40 c (nI s) k = h k := fun k k1 k2 => by rw [up_ne _ (by omega), up_ne _ (by omega), ← hh1, up_ne _ (by omega), up_ne _ (by omega)]
          rcases ch with q | ⟨q, qx⟩
          · exact Or.inl (by rw [e3 3 (by decide) (by decide)]; exact q)
          · exact Or.inr ⟨by rw [e3 3 (by decide) (by decide)]; exact q, hX σ _ h _ qx (fun k hk => by rw [us_f _ c s (by omega), us_f σ c v (by omega)]) e3⟩
theorem ag_letter (a b d : Int32) : Agr (InvX X) (fun h => fX_letter h a b d) (fun h => fM_letter h a b d) := by
  rintro h ⟨σ, w, ms, cs, kp, ho, ch⟩
  have hnc := w.nc_le
  have inv : InvX X h := ⟨σ, w, ms, cs, kp, ho, ch⟩
  dsimp only
  cases hc : wn a 0 (nI (σ 0 3) - 1) with
  | false =>
    refine ⟨-1, h, h, ?_, ?_, inv⟩
    · unfold fX_letter; rw [hasCopy_eq cs, cal_some, if_b0, hc]; rfl
    · unfold fM_letter; rw [mcopy_eq ms, cal_some, if_b0, hc]; rfl
  | true =>
    have hc0 := hc
    obtain ⟨c, hcn, rfl⟩ := (wn_cnt (by omega)).mp hc
    cases hv : wn b 0 1 with
    | false =>
      refine ⟨-1, h, h, ?_, ?_, inv⟩
      · unfold fX_letter; rw [hasCopy_eq cs, cal_some, if_b0, hc0, cond_true, isWithin_eq, cal_some, if_b0, hv]; rfl
      · unfold fM_letter; rw [mcopy_eq ms, cal_some, if_b0, hc0, cond_true, in_eq, cal_some, if_b0, hv]; rfl
    | true =>
      have hv0 := hv
      obtain ⟨t, -, htn, rfl⟩ := (wn_nat (A := 0) (B := 1) (a := 0) (b := 1) rfl rfl (by omega) (by omega)).mp hv
      have eX : fX_letter h (nI c) (nI t) d = cal (fX_isWithin h d (-1) (nI (2 + t))) (fun r39 h39 => if r39 = 0 then ret1 (-1) h39 else cal (fT_putCopyFact h39 (nI c) (3 + nI t) d) (fun _ h56 => cal (fS_forget h56) (fun _ h63 => ret1 1 h63))) := by
        unfold fX_letter
        rw [hasCopy_eq cs, cal_some, if_b0, hc0, cond_true, isWithin_eq, cal_some, if_b0, hv0, cond_true]
        simp only [jn]
        rcases (show t = 0 ∨ t = 1 by omega) with rfl | rfl
        · rw [if_pos (by decide)]; rfl
        · rw [if_neg (by decide)]; rfl
      have e2t : (2 : Int32) + nI t = nI (2 + t) := by rw [show (2 : Int32) = nI 2 from rfl, nI_add]
      have hB : (nI (2 + t)).toInt = ((3 + t : Nat) : Int) - 1 := by rw [nI_toInt (by omega)]; omega
      cases hs : wn d (-1) (nI (2 + t)) with
      | false =>
        refine ⟨-1, h, h, ?_, ?_, inv⟩
        · rw [eX, isWithin_eq, cal_some, if_b0, hs]; rfl
        · unfold fM_letter; rw [mcopy_eq ms, cal_some, if_b0, hc0, cond_true, in_eq, cal_some, if_b0, hv0, cond_true, e2t, in_eq, cal_some, if_b0, hs]; rfl
      | true =>
        have hs0 := hs
        obtain ⟨v, hvn, rfl⟩ := (wn_neg (n := 3 + t) rfl hB (by omega)).mp hs
        have ek : enc (8 + t) v = nI v - 1 := by unfold enc; rw [if_pos (by omega)]
        have cs1 : CS (us σ (8 + t) c v) (up h 7 (10 * c + (3 + t)) (nI v - 1)) := cs_putC cs (by omega) (fun i _ => us_k σ (by omega)) (fun p w' _ _ => pcF_us (by omega)) (fun q w' _ hw' => by rw [cpF_us (k := 8 + t) (by omega) (by omega) hw', ek, show 8 + t - 5 = 3 + t by omega]) (fun m _ => brM_us (by omega) (by omega) (by omega))
        have w1 : WF (us σ (8 + t) c v) := wf_us w (by omega) (by omega) (by rcases (show t = 0 ∨ t = 1 by omega) with rfl | rfl <;> simpa using hvn)
        have fx : FrX h (up (up h 7 (10 * c + (3 + t)) (nI v - 1)) 3 2 1) := fx_trans (fx_put (by omega)) fx_stale
        have cs2 := cs_stale cs1
        have hst : up (up h 7 (10 * c + (3 + t)) (nI v - 1)) 3 2 1 3 2 = 1 := stale_1
        generalize hh1 : up (up h 7 (10 * c + (3 + t)) (nI v - 1)) 3 2 1 = h1 at cs2 fx hst
        have ms1 := ms_x ms fx
        have m2 := ms1.put (8 + t) c v (by omega) (by omega)
        rw [ek] at m2
        refine ⟨1, h1, up h1 (28 + (8 + t)) c (nI v - 1), ?_, ?_, inv_told kp fx w1 cs2 hst (fm_put (by omega) (by omega)) m2 (fun p hp => by rw [us_k σ (by omega)]; exact ho p hp)⟩
        · rw [eX, isWithin_eq, cal_some, if_b0, hs0, cond_true, putCF_eq (w := 3 + t) w hcn (by rw [show (3 : Int32) = nI 3 from rfl, nI_add]) (by omega), cal_some, forget_eq, cal_some, hh1]
          rfl
        · unfold fM_letter
          rw [mcopy_eq ms1, cal_some, if_b0, hc0, cond_true, in_eq, cal_some, if_b0, hv0, cond_true, e2t, in_eq, cal_some, if_b0, hs0, cond_true]
          rcases (show t = 0 ∨ t = 1 by omega) with rfl | rfl
          · rw [if_pos (by decide), wr_at c 30 rfl rfl (by omega)]; rfl
          · rw [if_neg (by decide), wr_at c 30 rfl rfl (by omega)]; rfl
end Ops2
