/-! THE CALLS mark, like, bar -/
section Ops5
variable {X : Sg → Hp → Prop} {σ σ' : Sg} {h : Hp}
theorem thM_ne {c m v q : Nat} (hm : m < 8) (hq : q ≠ c) : thM (us σ 7 (8 * c + m) v) q = thM σ q := by
  unfold thM
  exact msk_ext (fun i hi => by rw [us_j σ (show 8 * q + i ≠ 8 * c + m by omega)])
theorem ntM_ne {c m v q : Nat} (hm : m < 8) (hq : q ≠ c) : ntM (us σ 7 (8 * c + m) v) q = ntM σ q := by
  unfold ntM
  exact msk_ext (fun i hi => by rw [us_j σ (show 8 * q + i ≠ 8 * c + m by omega)])
theorem thM_set {c m v : Nat} (hm : m < 8) : thM (us σ 7 (8 * c + m) v) c = if v = 1 then (thM σ c &&& (255 ^^^ 2 ^ m)) ||| 2 ^ m else thM σ c &&& (255 ^^^ 2 ^ m) := by
  have hl := thM_lt σ c
  have h2 : 2 ^ m < 2 ^ 8 := Nat.pow_lt_pow_right (by decide) hm
  have ha : thM σ c &&& (255 ^^^ 2 ^ m) < 2 ^ 8 := Nat.lt_of_le_of_lt Nat.and_le_left hl
  refine nat_ext (n := 8) (thM_lt _ c) ?_ (fun i hi => ?_)
  · split
    · exact Nat.or_lt_two_pow ha h2
    · exact ha
  · rw [thM_bit _ c hi]
    by_cases him : i = m
    · subst him
      rw [us_s]
      split
      · rename_i hv
        rw [Nat.testBit_or, pow_bit i hi i hi, hv]; simp
      · rename_i hv
        rw [Nat.testBit_and, clr_bit i hi i hi]; simp [hv]
    · rw [us_j σ (show 8 * c + i ≠ 8 * c + m by omega)]
      split
      · rw [Nat.testBit_or, Nat.testBit_and, thM_bit σ c hi, clr_bit m hm i hi, pow_bit m hm i hi, beq_false_of_ne him, Bool.not_false, Bool.and_true, Bool.or_false]
      · rw [Nat.testBit_and, thM_bit σ c hi, clr_bit m hm i hi]; simp [him]
theorem ntM_set {c m v : Nat} (hm : m < 8) : ntM (us σ 7 (8 * c + m) v) c = if v = 0 then (ntM σ c &&& (255 ^^^ 2 ^ m)) ||| 2 ^ m else ntM σ c &&& (255 ^^^ 2 ^ m) := by
  have hl := ntM_lt σ c
  have h2 : 2 ^ m < 2 ^ 8 := Nat.pow_lt_pow_right (by decide) hm
  have ha : ntM σ c &&& (255 ^^^ 2 ^ m) < 2 ^ 8 := Nat.lt_of_le_of_lt Nat.and_le_left hl
  refine nat_ext (n := 8) (ntM_lt _ c) ?_ (fun i hi => ?_)
  · split
    · exact Nat.or_lt_two_pow ha h2
    · exact ha
  · rw [ntM_bit _ c hi]
    by_cases him : i = m
    · subst him
      rw [us_s]
      split
      · rename_i hv
        rw [Nat.testBit_or, pow_bit i hi i hi, hv]; simp
      · rename_i hv
        rw [Nat.testBit_and, clr_bit i hi i hi]; simp [hv]
    · rw [us_j σ (show 8 * c + i ≠ 8 * c + m by omega)]
      split
      · rw [Nat.testBit_or, Nat.testBit_and, ntM_bit σ c hi, clr_bit m hm i hi, pow_bit m hm i hi, beq_false_of_ne him, Bool.not_false, Bool.and_true, Bool.or_false]
      · rw [Nat.testBit_and, ntM_bit σ c hi, clr_bit m hm i hi]; simp [him]
/-- a copy's marks are others -/
theorem cs_marks {c : Nat} (cs : CS σ h) (e0 : ∀ k, k ≠ 7 → σ' k = σ k) (e1 : ∀ q, q ≠ c → thM σ' q = thM σ q ∧ ntM σ' q = ntM σ q) : CS σ' (up (up h 7 (10 * c + 8) (nI (thM σ' c))) 7 (10 * c + 9) (nI (ntM σ' c))) := by
  refine ⟨fun i hi => ?_, fun p w' hp hw' => ?_, fun q w' hq hw' => ?_, fun m hm => ?_⟩
  · rw [up_ne _ (by decide), up_ne _ (by decide), e0 0 (by decide)]; exact cs.1 i hi
  · rw [e0 0 (by decide)] at hp
    rw [up_ne _ (by decide), up_ne _ (by decide), show pcF σ' p w' = pcF σ p w' by unfold pcF sz; rw [e0 1 (by decide), e0 2 (by decide), e0 3 (by decide), e0 4 (by decide), e0 5 (by decide)]]
    exact cs.2.1 p w' hp hw'
  · rw [e0 0 (by decide)] at hq
    rw [up_k, up_k]
    have hcp : w' < 8 → cpF σ' q w' = cpF σ q w' := by
      intro h8
      unfold cpF rw_ cl_
      rw [e0 2 (by decide), e0 4 (by decide), e0 6 (by decide), e0 8 (by decide), e0 9 (by decide), e0 10 (by decide), e0 11 (by decide), e0 12 (by decide)]
      rcases (show w' = 0 ∨ w' = 1 ∨ w' = 2 ∨ w' = 3 ∨ w' = 4 ∨ w' = 5 ∨ w' = 6 ∨ w' = 7 by omega) with rfl | rfl | rfl | rfl | rfl | rfl | rfl | rfl <;> rfl
    by_cases h9 : 10 * q + w' = 10 * c + 9
    · rw [h9, upd_same, show q = c by omega, show w' = 9 by omega]; rfl
    · rw [upd_ne h9]
      by_cases h8 : 10 * q + w' = 10 * c + 8
      · rw [h8, upd_same, show q = c by omega, show w' = 8 by omega]; rfl
      · rw [upd_ne h8, cs.2.2.1 q w' hq hw']
        rcases Nat.lt_or_ge w' 8 with hl | hl
        · exact (hcp hl).symm
        · have hqc : q ≠ c := by omega
          rcases (show w' = 8 ∨ w' = 9 by omega) with rfl | rfl
          · show nI (thM σ q) = nI (thM σ' q)
            rw [(e1 q hqc).1]
          · show nI (ntM σ q) = nI (ntM σ' q)
            rw [(e1 q hqc).2]
  · rw [up_ne _ (by decide), up_ne _ (by decide), show brM σ' m = brM σ m by unfold brM brd; rw [e0 0 (by decide), e0 13 (by decide), e0 14 (by decide)]]
    exact cs.2.2.2 m hm
theorem wf_marks (w : WF σ) (e0 : ∀ k, k ≠ 7 → σ' k = σ k) (e1 : ∀ c m, c < σ 0 3 → m < 8 → σ' 7 (8 * c + m) ≤ 2) : WF σ' := by
  obtain ⟨w1, w2, w3, w4, w5, w6⟩ := w
  unfold WF sz
  rw [e0 0 (by decide), e0 1 (by decide), e0 2 (by decide), e0 3 (by decide), e0 4 (by decide), e0 5 (by decide), e0 6 (by decide), e0 8 (by decide), e0 9 (by decide), e0 10 (by decide), e0 11 (by decide), e0 12 (by decide), e0 13 (by decide), e0 14 (by decide)]
  exact ⟨w1, w2, w3, w4, fun q hq => ⟨fun m hm => e1 q m hq hm, (w5 q hq).2⟩, w6⟩
theorem putMark_eq {c m v : Nat} (w : WF σ) (cs : CS σ h) (hc : c < σ 0 3) (hm : m < 8) (hv : v ≤ 2) : fT_putMark h (nI c) (nI m) (nI v) = some (0, up (up h 7 (10 * c + 8) (nI (thM (us σ 7 (8 * c + m) v) c))) 7 (10 * c + 9) (nI (ntM (us σ 7 (8 * c + m) v) c))) := by
  have ht := thM_lt σ c
  have hn := ntM_lt σ c
  unfold fT_putMark
  simp only [bnd, jn]
  rw [n_one_shl (by omega), copyFact_eq (W := 8) (w := 8) w cs hc rfl (by decide), cal_some, copyFact_eq (W := 9) (w := 9) w cs hc rfl (by decide), cal_some]
  rw [show cpF σ c 8 = nI (thM σ c) from rfl, show cpF σ c 9 = nI (ntM σ c) from rfl, clr_256 _ ht m hm, clr_256 _ hn m hm, n_or, n_or, thM_set hm, ntM_set hm]
  have e1 : (nI v = 1) ↔ v = 1 := n_eq (Y := 1) (b := 1) rfl rfl (by omega) (by omega)
  have e0 : (nI v = 0) ↔ v = 0 := n_eq (Y := 0) (b := 0) rfl rfl (by omega) (by omega)
  have p8 : ∀ (u : Hp) (z : Int32), fT_putCopyFact u (nI c) 8 z = some (0, up u 7 (10 * c + 8) z) := fun u z => putCF_eq (σ := σ) (w := 8) w hc rfl (by decide)
  have p9 : ∀ (u : Hp) (z : Int32), fT_putCopyFact u (nI c) 9 z = some (0, up u 7 (10 * c + 9) z) := fun u z => putCF_eq (σ := σ) (w := 9) w hc rfl (by decide)
  by_cases h1 : v = 1
  · rw [if_pos (e1.mpr h1), if_pos h1, p8, cal_some, if_neg (fun q => by have := e0.mp q; omega), if_neg (by omega), p9]
    rfl
  · rw [if_neg (fun q => h1 (e1.mp q)), if_neg h1, p8, cal_some]
    by_cases h0 : v = 0
    · rw [if_pos (e0.mpr h0), if_pos h0, p9]; rfl
    · rw [if_neg (fun q => h0 (e0.mp q)), if_neg h0, p9]; rfl
theorem ag_mark (a b d : Int32) : Agr (InvX X) (fun h => fX_mark h a b d) (fun h => fM_mark h a b d) := by
  rintro h ⟨σ, w, ms, cs, kp, ho, ch⟩
  have hnc := w.nc_le
  have inv : InvX X h := ⟨σ, w, ms, cs, kp, ho, ch⟩
  dsimp only
  cases hc : wn a 0 (nI (σ 0 3) - 1) with
  | false => exact ⟨-1, h, h, by unfold fX_mark; rw [hasCopy_eq cs, cal_some, if_b0, hc]; rfl, by unfold fM_mark; rw [mcopy_eq ms, cal_some, if_b0, hc]; rfl, inv⟩
  | true =>
    have hc0 := hc
    obtain ⟨c, hcn, rfl⟩ := (wn_cnt (by omega)).mp hc
    cases hm : wn b 0 7 with
    | false => exact ⟨-1, h, h, by unfold fX_mark; rw [hasCopy_eq cs, cal_some, if_b0, hc0, cond_true, isMark_eq, cal_some, if_b0, hm]; rfl, by unfold fM_mark; rw [mcopy_eq ms, cal_some, if_b0, hc0, cond_true, mmark_eq, cal_some, if_b0, hm]; rfl, inv⟩
    | true =>
      have hm0 := hm
      obtain ⟨m, -, hm7, rfl⟩ := (wn_nat (A := 0) (B := 7) (a := 0) (b := 7) rfl rfl (by omega) (by omega)).mp hm
      cases hv : wn d 0 2 with
      | false => exact ⟨-1, h, h, by unfold fX_mark; rw [hasCopy_eq cs, cal_some, if_b0, hc0, cond_true, isMark_eq, cal_some, if_b0, hm0, cond_true, isWithin_eq, cal_some, if_b0, hv]; rfl, by unfold fM_mark; rw [mcopy_eq ms, cal_some, if_b0, hc0, cond_true, mmark_eq, cal_some, if_b0, hm0, cond_true, in_eq, cal_some, if_b0, hv]; rfl, inv⟩
      | true =>
        have hv0 := hv
        obtain ⟨v, -, hv2, rfl⟩ := (wn_nat (A := 0) (B := 2) (a := 0) (b := 2) rfl rfl (by omega) (by omega)).mp hv
        have cs1 := cs_stale (cs_marks (σ' := us σ 7 (8 * c + m) v) (c := c) cs (fun k hk => us_f σ _ _ hk) (fun q hq => ⟨thM_ne (by omega) hq, ntM_ne (by omega) hq⟩))
        have wf : WF (us σ 7 (8 * c + m) v) := wf_marks w (fun k hk => us_f σ _ _ hk) (fun q i hq hi => by
          by_cases he : 8 * q + i = 8 * c + m
          · rw [he, us_s]; exact hv2
          · rw [us_j σ he]; exact (w.2.2.2.2.1 q hq).1 i hi)
        have fx : FrX h (up (up (up h 7 (10 * c + 8) (nI (thM (us σ 7 (8 * c + m) v) c))) 7 (10 * c + 9) (nI (ntM (us σ 7 (8 * c + m) v) c))) 3 2 1) := fx_trans (fx_trans (fx_put (by omega)) (fx_put (by omega))) fx_stale
        have hst : up (up (up h 7 (10 * c + 8) (nI (thM (us σ 7 (8 * c + m) v) c))) 7 (10 * c + 9) (nI (ntM (us σ 7 (8 * c + m) v) c))) 3 2 1 3 2 = 1 := stale_1
        have ex : fX_mark h (nI c) (nI m) (nI v) = some (nI (σ 7 (8 * c + m)), up (up (up h 7 (10 * c + 8) (nI (thM (us σ 7 (8 * c + m) v) c))) 7 (10 * c + 9) (nI (ntM (us σ 7 (8 * c + m) v) c))) 3 2 1) := by
          unfold fX_mark
          rw [hasCopy_eq cs, cal_some, if_b0, hc0, cond_true, isMark_eq, cal_some, if_b0, hm0, cond_true, isWithin_eq, cal_some, if_b0, hv0, cond_true, markOf_eq w cs hcn (by omega), cal_some, putMark_eq w cs hcn (by omega) hv2, cal_some, forget_eq]
          rfl
        generalize up (up (up h 7 (10 * c + 8) (nI (thM (us σ 7 (8 * c + m) v) c))) 7 (10 * c + 9) (nI (ntM (us σ 7 (8 * c + m) v) c))) 3 2 1 = h1 at cs1 fx hst ex
        have ms1 := ms_x ms fx
        refine ⟨nI (σ 7 (8 * c + m)), h1, up h1 35 (8 * c + m) (nI v), ex, ?_, inv_told kp fx wf cs1 hst (fm_put (by decide) (by decide)) (ms1.put 7 (8 * c + m) v (by decide) (by decide)) (fun p hp => by rw [us_k σ (by decide)]; exact ho p hp)⟩
        unfold fM_mark
        rw [mcopy_eq ms1, cal_some, if_b0, hc0, cond_true, mmark_eq, cal_some, if_b0, hm0, cond_true, in_eq, cal_some, if_b0, hv0, cond_true, rd_at (8 * c + m) 240 rfl (n_ix' (Mm := 8) rfl rfl) (by omega), ms1.a7 (by omega), wr_at (8 * c + m) 240 rfl (n_ix' (Mm := 8) rfl rfl) (by omega)]
        rfl
-- like
def lk (σ : Sg) (c o : Nat) : Sg := fun a b => if a = 7 ∧ 8 * c ≤ b ∧ b < 8 * c + 8 then σ 7 (8 * o + (b - 8 * c)) else σ a b
theorem lk_k {c o a : Nat} (ha : a ≠ 7) : lk σ c o a = σ a := by funext b; unfold lk; rw [if_neg (fun q => ha q.1)]
theorem lk_in {c o i : Nat} (hi : i < 8) : lk σ c o 7 (8 * c + i) = σ 7 (8 * o + i) := by
  unfold lk
  rw [if_pos ⟨rfl, by omega, by omega⟩, show 8 * c + i - 8 * c = i by omega]
theorem lk_out {c o j : Nat} (hj : j < 8 * c ∨ 8 * c + 8 ≤ j) : lk σ c o 7 j = σ 7 j := by unfold lk; rw [if_neg (by omega)]
def lkh (h : Hp) (c o i : Nat) : Hp := fun z => if z = 35 then (fun j => if 8 * c ≤ j ∧ j < 8 * c + i then h 35 (8 * o + (j - 8 * c)) else h 35 j) else h z
theorem lkh_0 (h : Hp) (c o : Nat) : lkh h c o 0 = h := by
  funext z j
  unfold lkh
  split
  · rename_i hz; subst hz; dsimp only; rw [if_neg (by omega)]
  · rfl
theorem lkh_at (h : Hp) (c o i j : Nat) : lkh h c o i 35 j = if 8 * c ≤ j ∧ j < 8 * c + i then h 35 (8 * o + (j - 8 * c)) else h 35 j := by unfold lkh; rw [if_pos rfl]
theorem lkh_ne (h : Hp) {z : Nat} (hz : z ≠ 35) (c o i : Nat) : lkh h c o i z = h z := by unfold lkh; rw [if_neg hz]
theorem lkh_c (h : Hp) (c o i : Nat) : lkh h c o i 35 (8 * c + i) = h 35 (8 * c + i) := by rw [lkh_at, if_neg (by omega)]
theorem lkh_o (h : Hp) (c o : Nat) {i : Nat} (hi : i < 8) : lkh h c o i 35 (8 * o + i) = h 35 (8 * o + i) := by rw [lkh_at, if_neg (by omega)]
theorem lkh_s (h : Hp) (c o i : Nat) : up (lkh h c o i) 35 (8 * c + i) (h 35 (8 * o + i)) = lkh h c o (i + 1) := by
  funext z j
  by_cases hz : z = 35
  · subst hz
    rw [up_k, lkh_at]
    by_cases hj : j = 8 * c + i
    · subst hj
      rw [upd_same, if_pos (by omega), show 8 * c + i - 8 * c = i by omega]
    · rw [upd_ne hj, lkh_at]
      by_cases h2 : 8 * c ≤ j ∧ j < 8 * c + i
      · rw [if_pos h2, if_pos (by omega)]
      · rw [if_neg h2, if_neg (by omega)]
  · rw [up_ne _ hz, lkh_ne h hz, lkh_ne h hz]
theorem cntP_t {f : Nat → Bool} {n : Nat} (hf : f n = true) : cntP f (n + 1) = cntP f n + 1 := by rw [show cntP f (n + 1) = cntP f n + (if f n then 1 else 0) from rfl, hf, if_pos rfl]
theorem cntP_f {f : Nat → Bool} {n : Nat} (hf : f n = false) : cntP f (n + 1) = cntP f n := by rw [show cntP f (n + 1) = cntP f n + (if f n then 1 else 0) from rfl, hf, if_neg (by decide), Nat.add_zero]
theorem nI_z (k : Nat) : nI k + 0 = nI k := by rw [show (0 : Int32) = nI 0 from rfl, nI_add, Nat.add_zero]
theorem pop_cnt {a : Nat} {f : Nat → Bool} : ∀ {n : Nat}, (∀ i, i < n → a.testBit i = f i) → pop a n = cntP f n
  | 0, _ => rfl
  | n + 1, hf => by unfold pop cntP; rw [pop_cnt (fun i hi => hf i (by omega)), hf n (by omega)]
theorem ag_like (a b : Int32) : Agr (InvX X) (fun h => fX_like h a b) (fun h => fM_like h a b) := by
  rintro h ⟨σ, w, ms, cs, kp, ho, ch⟩
  have hnc := w.nc_le
  have inv : InvX X h := ⟨σ, w, ms, cs, kp, ho, ch⟩
  dsimp only
  cases hc : wn a 0 (nI (σ 0 3) - 1) with
  | false => exact ⟨-1, h, h, by unfold fX_like; rw [hasCopy_eq cs, cal_some, if_b0, hc]; rfl, by unfold fM_like; rw [mcopy_eq ms, cal_some, if_b0, hc]; rfl, inv⟩
  | true =>
    have hc0 := hc
    obtain ⟨c, hcn, rfl⟩ := (wn_cnt (by omega)).mp hc
    cases hm : wn b 0 (nI (σ 0 3) - 1) with
    | false => exact ⟨-1, h, h, by unfold fX_like; rw [hasCopy_eq cs, cal_some, if_b0, hc0, cond_true, hasCopy_eq cs, cal_some, if_b0, hm]; rfl, by unfold fM_like; rw [mcopy_eq ms, cal_some, if_b0, hc0, cond_true, mcopy_eq ms, cal_some, if_b0, hm]; rfl, inv⟩
    | true =>
      have hm0 := hm
      obtain ⟨o, hon, rfl⟩ := (wn_cnt (by omega)).mp hm
      have mc := (w.2.2.2.2.1 c hcn).1
      have mo := (w.2.2.2.2.1 o hon).1
      have tc : thM (lk σ c o) c = thM σ o := by unfold thM; exact msk_ext (fun i hi => by rw [lk_in hi])
      have nc : ntM (lk σ c o) c = ntM σ o := by unfold ntM; exact msk_ext (fun i hi => by rw [lk_in hi])
      have cs0 := cs_stale cs
      have cs1 := cs_marks (σ' := lk σ c o) (c := c) cs0 (fun k hk => lk_k hk) (fun q hq => ⟨by unfold thM; exact msk_ext (fun i hi => by rw [lk_out (by omega)]), by unfold ntM; exact msk_ext (fun i hi => by rw [lk_out (by omega)])⟩)
      rw [tc, nc] at cs1
      have wf : WF (lk σ c o) := wf_marks w (fun k hk => lk_k hk) (fun q i hq hi => by
        by_cases he : q = c
        · subst he; rw [lk_in hi]; exact mo i hi
        · rw [lk_out (by omega)]; exact (w.2.2.2.2.1 q hq).1 i hi)
      have fx : FrX h (up (up (up h 3 2 1) 7 (10 * c + 8) (nI (thM σ o))) 7 (10 * c + 9) (nI (ntM σ o))) := fx_trans (fx_trans fx_stale (fx_put (by omega))) (fx_put (by omega))
      have hst : up (up (up h 3 2 1) 7 (10 * c + 8) (nI (thM σ o))) 7 (10 * c + 9) (nI (ntM σ o)) 3 2 = 1 := by rw [up_ne _ (by decide), up_ne _ (by decide)]; exact stale_1
      have hx1 : thM σ o ^^^ thM σ c < 2 ^ 8 := Nat.xor_lt_two_pow (thM_lt σ o) (thM_lt σ c)
      have hx2 : ntM σ o ^^^ ntM σ c < 2 ^ 8 := Nat.xor_lt_two_pow (ntM_lt σ o) (ntM_lt σ c)
      have hx3 : (thM σ o ^^^ thM σ c) ||| (ntM σ o ^^^ ntM σ c) < 2 ^ 8 := Nat.or_lt_two_pow hx1 hx2
      have hpop : pop ((thM σ o ^^^ thM σ c) ||| (ntM σ o ^^^ ntM σ c)) 9 = cntP (fun m => !(σ 7 (8 * c + m) == σ 7 (8 * o + m))) 8 := by
        rw [show pop ((thM σ o ^^^ thM σ c) ||| (ntM σ o ^^^ ntM σ c)) 9 = pop ((thM σ o ^^^ thM σ c) ||| (ntM σ o ^^^ ntM σ c)) 8 + (if ((thM σ o ^^^ thM σ c) ||| (ntM σ o ^^^ ntM σ c)).testBit 8 then 1 else 0) from rfl, Nat.testBit_lt_two_pow hx3, if_neg (by decide), Nat.add_zero]
        refine pop_cnt (fun i hi => ?_)
        rw [Nat.testBit_or, Nat.testBit_xor, Nat.testBit_xor, thM_bit σ o hi, thM_bit σ c hi, ntM_bit σ o hi, ntM_bit σ c hi]
        have q1 := mc i hi
        have q2 := mo i hi
        rcases (show σ 7 (8 * c + i) = 0 ∨ σ 7 (8 * c + i) = 1 ∨ σ 7 (8 * c + i) = 2 by omega) with e | e | e <;> rcases (show σ 7 (8 * o + i) = 0 ∨ σ 7 (8 * o + i) = 1 ∨ σ 7 (8 * o + i) = 2 by omega) with e2 | e2 | e2 <;> rw [e, e2] <;> rfl
      have ex : fX_like h (nI c) (nI o) = some (nI (cntP (fun m => !(σ 7 (8 * c + m) == σ 7 (8 * o + m))) 8), up (up (up h 3 2 1) 7 (10 * c + 8) (nI (thM σ o))) 7 (10 * c + 9) (nI (ntM σ o))) := by
        unfold fX_like fT_copyMarks
        simp only [bnd]
        rw [hasCopy_eq cs, cal_some, if_b0, hc0, cond_true, hasCopy_eq cs, cal_some, if_b0, hm0, cond_true, forget_eq, cal_some, copyFact_eq (W := 8) (w := 8) w cs0 hon rfl (by decide), cal_some, copyFact_eq (W := 9) (w := 9) w cs0 hon rfl (by decide), cal_some, copyFact_eq (W := 8) (w := 8) w cs0 hcn rfl (by decide), cal_some, copyFact_eq (W := 9) (w := 9) w cs0 hcn rfl (by decide), cal_some, putCF_eq (W := 8) (w := 8) w hcn rfl (by decide), cal_some, putCF_eq (W := 9) (w := 9) w hcn rfl (by decide), cal_some]
        rw [show cpF σ o 8 = nI (thM σ o) from rfl, show cpF σ o 9 = nI (ntM σ o) from rfl, show cpF σ c 8 = nI (thM σ c) from rfl, show cpF σ c 9 = nI (ntM σ c) from rfl, n_xor, n_xor, n_or, bitCount_eq (by omega), hpop]
        rfl
      generalize up (up (up h 3 2 1) 7 (10 * c + 8) (nI (thM σ o))) 7 (10 * c + 9) (nI (ntM σ o)) = h1 at cs1 fx hst ex
      have ms1 := ms_x ms fx
      have fm : FrM h1 (lkh h1 c o 8) := ⟨fun k hk => lkh_ne _ (by omega) _ _ _, by rw [lkh_ne _ (by decide)], fun k k1 k2 => lkh_ne _ (by omega) _ _ _⟩
      have ms2 : MS (lk σ c o) (lkh h1 c o 8) := by
        refine ⟨fun i hi => by rw [lkh_ne _ (by decide), lk_k (by decide)]; exact ms1.1 i hi, fun k k1 k2 j hj => ?_⟩
        by_cases hk : k = 7
        · subst hk
          have hj2 : j < 240 := hj
          rw [show 28 + 7 = 35 from rfl, lkh_at]
          show _ = nI (lk σ c o 7 j)
          by_cases hin : 8 * c ≤ j ∧ j < 8 * c + 8
          · rw [if_pos hin, ms1.a7 (by omega)]
            unfold lk
            rw [if_pos ⟨rfl, hin⟩]
          · rw [if_neg hin, ms1.a7 hj2, lk_out (by omega)]
        · rw [lkh_ne _ (by omega), lk_k hk]
          exact ms1.2 k k1 k2 j hj
      refine ⟨_, h1, lkh h1 c o 8, ex, ?_, inv_told kp fx wf cs1 hst fm ms2 (fun p hp => by rw [lk_k (by decide)]; exact ho p hp)⟩
      unfold fM_like
      rw [mcopy_eq ms1, cal_some, if_b0, hc0, cond_true, mcopy_eq ms1, cal_some, if_b0, hm0, cond_true]
      have q := loopS (fun n (a : Int32 × Int32 × Hp) => fM_like_L23 (nI c) (nI o) n a.1 a.2.1 a.2.2) (fun i => (nI (cntP (fun m => !(σ 7 (8 * c + m) == σ 7 (8 * o + m))) i), nI i, lkh h1 c o i)) (some (nI (cntP (fun m => !(σ 7 (8 * c + m) == σ 7 (8 * o + m))) 8), lkh h1 c o 8)) 8 (by decide) (by
        intro i n hi
        have q1 := mc i hi
        have q2 := mo i hi
        simp only [fM_like_L23, jn, bnd]
        rw [if_neg (fun q => by have := (n_le (X := 8) (a := 8) rfl rfl (by omega) (by omega)).mp q; omega), rd_at (8 * c + i) 240 rfl (n_ix' (Mm := 8) rfl rfl) (by omega), rd_at (8 * o + i) 240 rfl (n_ix' (Mm := 8) rfl rfl) (by omega), lkh_c, lkh_o _ _ _ hi, ms1.a7 (by omega), ms1.a7 (by omega)]
        by_cases he : σ 7 (8 * c + i) = σ 7 (8 * o + i)
        · rw [if_pos (by rw [he]), rd_at (8 * o + i) 240 rfl (n_ix' (Mm := 8) rfl rfl) (by omega), wr_at (8 * c + i) 240 rfl (n_ix' (Mm := 8) rfl rfl) (by omega), lkh_o _ _ _ hi, lkh_s, nI_z, n_s1, cntP_f (by simp [he])]
        · rw [if_neg (fun q => he ((nI_eq (by omega) (by omega)).mp q)), rd_at (8 * o + i) 240 rfl (n_ix' (Mm := 8) rfl rfl) (by omega), wr_at (8 * c + i) 240 rfl (n_ix' (Mm := 8) rfl rfl) (by omega), lkh_o _ _ _ hi, lkh_s, n_s1, n_s1, cntP_t (by simp [he])]) (by
        intro n
        simp only [fM_like_L23]
        rw [if_pos (by decide)]
        rfl) 0 (by decide)
      rw [lkh_0] at q
      exact q
end Ops5
