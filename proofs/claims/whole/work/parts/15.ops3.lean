/-! THE CALLS sheet, drop, free, out, of, told -/
theorem swf_at {d o : RO} : ∀ {l : List RO} {i j : Nat}, i + j < 2 ^ 31 → l[j]? = some o → swf (nI (i + j)) i l d = o
  | [], i, j, _, h => by simp at h
  | a :: l, i, 0, _, h => by
    unfold swf
    rw [Nat.add_zero, if_pos rfl]
    simpa using h
  | a :: l, i, j + 1, hb, h => by
    unfold swf
    rw [if_neg (fun q => by have := (nI_eq (by omega) (by omega)).mp q; omega), show i + (j + 1) = i + 1 + j by omega]
    exact swf_at (by omega) (by simpa using h)
theorem swf_out {d : RO} {x : Int32} : ∀ {l : List RO} {i : Nat}, (∀ j, j < l.length → x ≠ nI (i + j)) → swf x i l d = d
  | [], i, _ => rfl
  | a :: l, i, h => by
    have h0 := h 0 (by simp)
    rw [Nat.add_zero] at h0
    unfold swf
    rw [if_neg h0]
    exact swf_out (fun j hj => by
      have := h (j + 1) (by simpa using hj)
      rwa [show i + (j + 1) = i + 1 + j by omega] at this)
/-- the first i places of a row hold v -/
def flh (h : Hp) (k a : Nat) (v : Int32) (i : Nat) : Hp := fun z => if z = k then (fun j => if a ≤ j ∧ j < i then v else h k j) else h z
theorem flh_0 (h : Hp) (k a : Nat) (v : Int32) : flh h k a v a = h := by
  funext z j
  unfold flh
  by_cases hz : z = k
  · subst hz
    rw [if_pos rfl, if_neg (by omega)]
  · rw [if_neg hz]
theorem flh_s (h : Hp) (k a : Nat) (v : Int32) {i : Nat} (hi : a ≤ i) : up (flh h k a v i) k i v = flh h k a v (i + 1) := by
  funext z j
  by_cases hz : z = k
  · subst hz
    rw [up_k]
    unfold flh
    rw [if_pos rfl, if_pos rfl]
    by_cases hj : j = i
    · subst hj
      rw [upd_same, if_pos (by omega)]
    · rw [upd_ne hj]
      by_cases h2 : a ≤ j ∧ j < i
      · rw [if_pos h2, if_pos (by omega)]
      · rw [if_neg h2, if_neg (by omega)]
  · rw [up_ne _ hz]
    unfold flh
    rw [if_neg hz, if_neg hz]
theorem flh_k (h : Hp) (k a : Nat) (v : Int32) (i j : Nat) : flh h k a v i k j = if a ≤ j ∧ j < i then v else h k j := by unfold flh; rw [if_pos rfl]
theorem flh_ne (h : Hp) {k z : Nat} (hz : z ≠ k) (a : Nat) (v : Int32) (i : Nat) : flh h k a v i z = h z := by unfold flh; rw [if_neg hz]
theorem fill_eq {h : Hp} {k n : Nat} {v : Int32} (hk : lay[k]? = some (.inl (false, n))) : fJ_fill h k v = some (0, flh h k 0 v n) := by
  have hn := alen_of hk
  unfold fJ_fill aln
  rw [hk]
  have q := loopS (fun m (a : Int32 × Hp) => fJ_fill_L5 v (nI n) k m a.1 a.2) (fun i => (nI i, flh h k 0 v i)) (some (0, flh h k 0 v n)) n (by omega) (by
    intro i m hi
    simp only [fJ_fill_L5]
    rw [if_neg (fun q => by have := (n_le rfl rfl (by omega) (by omega)).mp q; omega), wr_at i n hk rfl hi, flh_s h k 0 v (by omega), n_s1]) (by
    intro m
    simp only [fJ_fill_L5]
    rw [if_pos (Int32.le_refl _)]
    rfl) 0 (by omega)
  rw [flh_0] at q
  exact q
section Ops3
variable {X : Sg → Hp → Prop} {σ : Sg} {h : Hp}
theorem brM_0 {i v m : Nat} (hi : i ≠ 4) : brM (us σ 0 i v) m = brM σ m := by
  unfold brM brd
  rw [us_j σ (Ne.symm hi), us_f σ i v (by decide), us_f σ i v (by decide)]
theorem refuse_inv {r : Int32} {o1 o2 : Hp → RO} (inv : InvX X h) (e1 : o1 h = some (r, h)) (e2 : o2 h = some (r, h)) : ∃ (r : Int32) (h1 h2 : Hp), o1 h = some (r, h1) ∧ o2 h1 = some (r, h2) ∧ InvX X h2 := ⟨r, h, h, e1, e2, inv⟩
theorem ag_sheet (a b : Int32) : Agr (InvX X) (fun h => fX_sheet h a b) (fun h => fM_sheet h a b) := by
  rintro h ⟨σ, w, ms, cs, kp, ho, ch⟩
  have inv : InvX X h := ⟨σ, w, ms, cs, kp, ho, ch⟩
  dsimp only
  cases hr : wn a 1 3 with
  | false => exact ⟨-1, h, h, by unfold fX_sheet; rw [isWithin_eq, cal_some, if_b0, hr]; rfl, by unfold fM_sheet; rw [in_eq, cal_some, if_b0, hr]; rfl, inv⟩
  | true =>
    cases hc : wn b 1 4 with
    | false => exact ⟨-1, h, h, by unfold fX_sheet; rw [isWithin_eq, cal_some, if_b0, hr, cond_true, isWithin_eq, cal_some, if_b0, hc]; rfl, by unfold fM_sheet; rw [in_eq, cal_some, if_b0, hr, cond_true, in_eq, cal_some, if_b0, hc]; rfl, inv⟩
    | true =>
      have hr0 := hr
      have hc0 := hc
      obtain ⟨r, r1, r2, rfl⟩ := (wn_nat (A := 1) (B := 3) (a := 1) (b := 3) rfl rfl (by omega) (by omega)).mp hr
      obtain ⟨c, c1, c2, rfl⟩ := (wn_nat (A := 1) (B := 4) (a := 1) (b := 4) rfl rfl (by omega) (by omega)).mp hc
      have hrc : r * c ≤ 3 * 4 := Nat.mul_le_mul r2 c2
      by_cases h9 : r * c ≤ 9
      · have e9 : nI r * nI c ≤ 9 := by rw [n_mul]; exact (n_le (Y := 9) (b := 9) rfl rfl (by omega) (by omega)).mpr h9
        have fx : FrX h (up (up (up (up (up h 1 0 (nI r)) 1 1 (nI c)) 1 2 0) 1 3 0) 3 2 1) := fx_trans (fx_trans (fx_trans (fx_trans (fx_put (by omega)) (fx_put (by omega))) (fx_put (by omega))) (fx_put (by omega))) fx_stale
        have hst : up (up (up (up (up h 1 0 (nI r)) 1 1 (nI c)) 1 2 0) 1 3 0) 3 2 1 3 2 = 1 := stale_1
        obtain ⟨σ', hσ'⟩ : ∃ σ' : Sg, σ' = us (us (us (us σ 0 0 r) 0 1 c) 0 2 0) 0 3 0 := ⟨_, rfl⟩
        have s0 : σ' 0 0 = r ∧ σ' 0 1 = c ∧ σ' 0 2 = 0 ∧ σ' 0 3 = 0 ∧ σ' 0 4 = σ 0 4 := by subst hσ'; simp [us]
        have sk : ∀ k, k ≠ 0 → σ' k = σ k := fun k hk => by subst hσ'; rw [us_f _ _ _ hk, us_f _ _ _ hk, us_f _ _ _ hk, us_f _ _ _ hk]
        have cs1 : CS σ' (up (up (up (up (up h 1 0 (nI r)) 1 1 (nI c)) 1 2 0) 1 3 0) 3 2 1) := by
          refine ⟨fun i hi => ?_, fun p _ hp => ?_, fun q _ hq => ?_, fun m hm => ?_⟩
          · rw [up_ne _ (by decide), up_k, up_k, up_k, up_k]
            rcases (show i = 0 ∨ i = 1 ∨ i = 2 ∨ i = 3 ∨ i = 4 by omega) with rfl | rfl | rfl | rfl | rfl
            · rw [s0.1]; simp [upd]
            · rw [s0.2.1]; simp [upd]
            · rw [s0.2.2.1]; simp [upd]; rfl
            · rw [s0.2.2.2.1]; simp [upd]; rfl
            · rw [s0.2.2.2.2]; simp [upd]; exact cs.1 4 (by decide)
          · rw [s0.2.2.1] at hp; omega
          · rw [s0.2.2.2.1] at hq; omega
          · rw [up_ne _ (by decide), up_ne _ (by decide), up_ne _ (by decide), up_ne _ (by decide), up_ne _ (by decide)]
            have : brM σ' m = brM σ m := by subst hσ'; rw [brM_0 (by decide), brM_0 (by decide), brM_0 (by decide), brM_0 (by decide)]
            rw [this]
            exact cs.2.2.2 m hm
        have wf : WF σ' := by
          obtain ⟨w1, w2, w3, w4, w5, w6⟩ := w
          refine ⟨⟨by omega, by omega, by omega, by omega, by rw [s0.1, s0.2.1]; exact h9, by omega, by omega⟩, fun p hp => by omega, ⟨fun q => by omega, fun p hp => by omega, fun _ => s0.2.2.2.1, fun p hp => by omega⟩, fun p _ hp => by omega, fun q hq => by omega, fun k hk => ?_⟩
          rw [s0.2.2.2.2] at hk
          rw [sk 13 (by decide), sk 14 (by decide)]
          exact w6 k hk
        generalize hh1 : up (up (up (up (up h 1 0 (nI r)) 1 1 (nI c)) 1 2 0) 1 3 0) 3 2 1 = h1 at fx hst cs1
        have ms1 := ms_x ms fx
        have ms2 : MS σ' (up (up (up (up h1 28 0 (nI r)) 28 1 (nI c)) 28 2 0) 28 8 0) := by
          subst hσ'
          exact (((ms1.num 0 r (by decide)).num 1 c (by decide)).num 2 0 (by decide)).num 3 0 (by decide)
        refine ⟨nI (r * c), h1, up (up (up (up h1 28 0 (nI r)) 28 1 (nI c)) 28 2 0) 28 8 0, ?_, ?_, inv_told kp fx wf cs1 hst (fm_trans (fm_trans (fm_trans (fm_num (by decide)) (fm_num (by decide))) (fm_num (by decide))) (fm_num (by decide))) ms2 (fun p hp => by rw [sk 5 (by decide)]; exact ho p hp)⟩
        · unfold fX_sheet
          rw [isWithin_eq, cal_some, if_b0, hr0, cond_true, isWithin_eq, cal_some, if_b0, hc0, cond_true, if_pos e9]
          unfold fT_startSheet
          simp only [pt, ret1, cal_some]
          rw [forget_eq, cal_some, hh1, places_eq cs1, s0.1, s0.2.1]
          rfl
        · unfold fM_sheet
          rw [in_eq, cal_some, if_b0, hr0, cond_true, in_eq, cal_some, if_b0, hc0, cond_true, if_pos e9, n_mul]
          rfl
      · have e9 : ¬ nI r * nI c ≤ 9 := by rw [n_mul]; exact fun q => h9 ((n_le (Y := 9) (b := 9) rfl rfl (by omega) (by omega)).mp q)
        exact ⟨-1, h, h, by unfold fX_sheet; rw [isWithin_eq, cal_some, if_b0, hr0, cond_true, isWithin_eq, cal_some, if_b0, hc0, cond_true, if_neg e9]; rfl, by unfold fM_sheet; rw [in_eq, cal_some, if_b0, hr0, cond_true, in_eq, cal_some, if_b0, hc0, cond_true, if_neg e9]; rfl, inv⟩
theorem ag_drop : Agr (InvX X) (fun h => fX_drop h) (fun h => fM_drop h) := by
  rintro h ⟨σ, w, ms, cs, kp, ho, ch⟩
  have inv : InvX X h := ⟨σ, w, ms, cs, kp, ho, ch⟩
  have hnp := w.1.2.2.2.2.2.1
  have hnc := w.nc_le
  dsimp only
  have e1 := cs.1 2 (by decide)
  have e2 := ms.np
  cases hn : σ 0 2 with
  | zero =>
    rw [hn] at e1 e2
    exact ⟨-4, h, h, by unfold fX_drop; rw [e1, if_pos (by decide)]; rfl, by unfold fM_drop; rw [e2, if_pos (by decide)]; rfl, inv⟩
  | succ n =>
    rw [hn] at e1 e2
    have hne : ¬ nI (n + 1) = 0 := nI_ne0 (by omega) (by omega)
    obtain ⟨σ', hσ'⟩ : ∃ σ' : Sg, σ' = us (us σ 0 2 n) 0 3 (σ 4 n) := ⟨_, rfl⟩
    have s0 : σ' 0 0 = σ 0 0 ∧ σ' 0 1 = σ 0 1 ∧ σ' 0 2 = n ∧ σ' 0 3 = σ 4 n ∧ σ' 0 4 = σ 0 4 := by subst hσ'; simp [us]
    have sk : ∀ k, k ≠ 0 → σ' k = σ k := fun k hk => by subst hσ'; rw [us_f _ _ _ hk, us_f _ _ _ hk]
    have hend := w.end_le (p := n) (by omega)
    have ssz : ∀ p, sz σ' p = sz σ p := fun p => by unfold sz; rw [sk 1 (by decide), sk 2 (by decide)]
    have wf : WF σ' := by
      obtain ⟨w1, w2, w3, w4, w5, w6⟩ := w
      refine ⟨⟨by omega, by omega, by omega, by omega, by rw [s0.1, s0.2.1]; exact w1.2.2.2.2.1, by omega, by omega⟩, fun p hp => ?_, ⟨fun q => ?_, fun p hp => ?_, fun q => ?_, fun p hp => ?_⟩, fun p c hp h1 h2 => ?_, fun q hq => ?_, fun k hk => ?_⟩
      · rw [sk 1 (by decide), sk 2 (by decide), sk 3 (by decide), sk 5 (by decide)]; exact w2 p (by omega)
      · rw [sk 4 (by decide)]; exact w3.1 (by omega)
      · rw [sk 4 (by decide), ssz]; exact w3.2.1 p (by omega)
      · rw [s0.2.2.2.1, show n = 0 by omega]; exact w3.1 (by omega)
      · rw [s0.2.2.2.1, sk 4 (by decide), ssz, ← w3.2.1 p (by omega), show p + 1 = n by omega]
      · rw [sk 4 (by decide), ssz] at h2
        rw [sk 4 (by decide)] at h1
        rw [sk 6 (by decide)]
        exact w4 p c (by omega) h1 h2
      · rw [s0.2.2.2.1] at hq
        rw [sk 7 (by decide), sk 8 (by decide), sk 9 (by decide), sk 10 (by decide), sk 11 (by decide), sk 12 (by decide)]
        exact w5 q (by omega)
      · rw [s0.2.2.2.2] at hk
        rw [sk 13 (by decide), sk 14 (by decide)]
        exact w6 k hk
    have fx : FrX h (up (up (up h 3 2 1) 1 2 (nI n)) 1 3 (nI (σ 4 n))) := fx_trans (fx_trans fx_stale (fx_put (by omega))) (fx_put (by omega))
    have hst : up (up (up h 3 2 1) 1 2 (nI n)) 1 3 (nI (σ 4 n)) 3 2 = 1 := by rw [up_ne _ (by decide), up_ne _ (by decide)]; exact stale_1
    have cs1 : CS σ' (up (up (up h 3 2 1) 1 2 (nI n)) 1 3 (nI (σ 4 n))) := by
      refine ⟨fun i hi => ?_, fun p w' hp hw' => ?_, fun q w' hq hw' => ?_, fun m hm => ?_⟩
      · rw [up_k, up_k, up_ne _ (by decide)]
        rcases (show i = 0 ∨ i = 1 ∨ i = 2 ∨ i = 3 ∨ i = 4 by omega) with rfl | rfl | rfl | rfl | rfl
        · rw [s0.1]; simp [upd]; exact cs.1 0 (by decide)
        · rw [s0.2.1]; simp [upd]; exact cs.1 1 (by decide)
        · rw [s0.2.2.1]; simp [upd]
        · rw [s0.2.2.2.1]; simp [upd]
        · rw [s0.2.2.2.2]; simp [upd]; exact cs.1 4 (by decide)
      · rw [up_ne _ (by decide), up_ne _ (by decide), up_ne _ (by decide), show pcF σ' p w' = pcF σ p w' by unfold pcF; rw [ssz, sk 1 (by decide), sk 2 (by decide), sk 3 (by decide), sk 4 (by decide), sk 5 (by decide)]]
        exact cs.2.1 p w' (by omega) hw'
      · rw [s0.2.2.2.1] at hq
        rw [up_ne _ (by decide), up_ne _ (by decide), up_ne _ (by decide), show cpF σ' q w' = cpF σ q w' by unfold cpF rw_ cl_ thM ntM; rw [sk 2 (by decide), sk 4 (by decide), sk 6 (by decide), sk 7 (by decide), sk 8 (by decide), sk 9 (by decide), sk 10 (by decide), sk 11 (by decide), sk 12 (by decide)]]
        exact cs.2.2.1 q w' (by omega) hw'
      · rw [up_ne _ (by decide), up_ne _ (by decide), up_ne _ (by decide), show brM σ' m = brM σ m by subst hσ'; rw [brM_0 (by decide), brM_0 (by decide)]]
        exact cs.2.2.2 m hm
    have hf := cs.2.1 n 3 (by omega) (by decide)
    have ex : fX_drop h = some (nI n, up (up (up h 3 2 1) 1 2 (nI n)) 1 3 (nI (σ 4 n))) := by
      unfold fX_drop
      rw [e1, if_neg hne, forget_eq, cal_some]
      unfold fT_dropPiece fT_pieceFact
      simp only [pt]
      rw [up_ne h (by decide), e1, nI_pred, up_k (up h 3 2 1), upd_same, rd_at (6 * n + 3) 30 rfl (n_ix (Mm := 6) rfl (show (3 : Int32) = nI 3 from rfl)) (by omega), up_ne _ (by decide), up_ne h (by decide), hf]
      simp only [ret1, cal_some]
      rw [up_k, upd_ne (by decide), up_k, upd_same]
      rfl
    generalize hh1 : up (up (up h 3 2 1) 1 2 (nI n)) 1 3 (nI (σ 4 n)) = h1 at fx hst cs1 ex
    have ms1 := ms_x ms fx
    have e3 : h1 28 2 = nI (n + 1) := by rw [ms1.np, hn]
    have ms2 : MS σ' (up (up h1 28 2 (nI n)) 28 8 (nI (σ 4 n))) := by
      subst hσ'
      exact (ms1.num 2 n (by decide)).num 3 (σ 4 n) (by decide)
    refine ⟨nI n, h1, up (up h1 28 2 (nI n)) 28 8 (nI (σ 4 n)), ex, ?_, inv_told kp fx wf cs1 hst (fm_trans (fm_num (by decide)) (fm_num (by decide))) ms2 (fun p hp => by rw [sk 5 (by decide)]; exact ho p hp)⟩
    unfold fM_drop
    simp only [pt]
    rw [e3, if_neg hne, nI_pred, up_k, upd_same, rd_at n 5 rfl rfl (by omega), up_ne h1 (show 32 ≠ 28 by decide), ms1.a4 (by omega), up_k, upd_ne (by decide), up_k, upd_same]
    rfl
end Ops3
