/-! THE CALLS bar, piece -/
section Ops6
variable {X : Sg → Hp → Prop} {σ σ' : Sg} {h : Hp}
def bS (σ : Sg) (m o : Nat) : Sg := us (us (us σ 13 (σ 0 4) m) 14 (σ 0 4) o) 0 4 (σ 0 4 + 1)
theorem bS_k {m o k : Nat} (h0 : k ≠ 0) (h1 : k ≠ 13) (h2 : k ≠ 14) : bS σ m o k = σ k := by unfold bS; rw [us_f _ _ _ h0, us_f _ _ _ h2, us_f _ _ _ h1]
theorem bS_0 {m o i : Nat} (hi : i ≠ 4) : bS σ m o 0 i = σ 0 i := by unfold bS; rw [us_j _ hi, us_k _ (by decide), us_k _ (by decide)]
theorem bS_4 {m o : Nat} : bS σ m o 0 4 = σ 0 4 + 1 := by unfold bS; rw [us_s]
theorem bS_13 {m o k : Nat} : bS σ m o 13 k = if k = σ 0 4 then m else σ 13 k := by
  unfold bS; rw [us_k _ (by decide), us_k _ (by decide)]
  by_cases hk : k = σ 0 4
  · rw [if_pos hk, hk, us_s]
  · rw [if_neg hk, us_j _ hk]
theorem bS_14 {m o k : Nat} : bS σ m o 14 k = if k = σ 0 4 then o else σ 14 k := by
  unfold bS; rw [us_k _ (by decide)]
  by_cases hk : k = σ 0 4
  · rw [if_pos hk, hk, us_s]
  · rw [if_neg hk, us_j _ hk, us_k _ (by decide)]
theorem any_ext {f g : Nat → Bool} {n : Nat} (hf : ∀ i, i < n → f i = g i) : (List.range n).any f = (List.range n).any g := by
  induction n with
  | zero => rfl
  | succ n ih => rw [any_succ, any_succ, ih (fun i hi => hf i (by omega)), hf n (by omega)]
theorem brd_bS {m o a b : Nat} : brd (bS σ m o) a b = (brd σ a b || ((m == a && o == b) || (m == b && o == a))) := by
  unfold brd
  rw [bS_4, any_succ, bS_13, bS_14, if_pos rfl, if_pos rfl]
  congr 1
  exact any_ext (fun i hi => by rw [bS_13, bS_14, if_neg (by omega), if_neg (by omega)])
theorem brM_bS {m o x : Nat} (hm : m < 8) (ho : o < 8) (hmo : m ≠ o) : brM (bS σ m o) x = if x = m then brM σ m ||| 2 ^ o else if x = o then brM σ o ||| 2 ^ m else brM σ x := by
  have p2 : ∀ i, i < 8 → 2 ^ i < 2 ^ 8 := fun i hi => Nat.pow_lt_pow_right (by decide) hi
  refine nat_ext (n := 8) (brM_lt _ x) ?_ (fun i hi => ?_)
  · split
    · exact Nat.or_lt_two_pow (brM_lt σ m) (p2 o ho)
    · split
      · exact Nat.or_lt_two_pow (brM_lt σ o) (p2 m hm)
      · exact brM_lt σ x
  · rw [brM_bit _ x hi, brd_bS]
    split
    · rename_i e
      subst e
      rw [Nat.testBit_or, brM_bit σ x hi, pow_bit o ho i hi]
      congr 1
      simp [show ¬ o = x from fun q => hmo q.symm, BEq.comm (a := o)]
      intro _ q
      exact absurd q hmo
    · rename_i e
      split
      · rename_i e2
        subst e2
        rw [Nat.testBit_or, brM_bit σ x hi, pow_bit m hm i hi]
        congr 1
        simp [hmo, BEq.comm (a := m)]
        intro q
        exact absurd q e
      · rename_i e2
        rw [brM_bit σ x hi]
        simp [show ¬ m = x from fun q => e q.symm, show ¬ o = x from fun q => e2 q.symm]
theorem ag_bar (a b : Int32) : Agr (InvX X) (fun h => fX_bar h a b) (fun h => fM_bar h a b) := by
  rintro h ⟨σ, w, ms, cs, kp, ho, ch⟩
  have hnb := w.1.2.2.2.2.2.2
  have inv : InvX X h := ⟨σ, w, ms, cs, kp, ho, ch⟩
  dsimp only
  cases hc : wn a 0 7 with
  | false => exact ⟨-1, h, h, by unfold fX_bar; rw [isMark_eq, cal_some, if_b0, hc]; rfl, by unfold fM_bar; rw [mmark_eq, cal_some, if_b0, hc]; rfl, inv⟩
  | true =>
    have hc0 := hc
    obtain ⟨m, -, hm7, rfl⟩ := (wn_nat (A := 0) (B := 7) (a := 0) (b := 7) rfl rfl (by omega) (by omega)).mp hc
    cases hd : wn b 0 7 with
    | false => exact ⟨-1, h, h, by unfold fX_bar; rw [isMark_eq, cal_some, if_b0, hc0, cond_true, isMark_eq, cal_some, if_b0, hd]; rfl, by unfold fM_bar; rw [mmark_eq, cal_some, if_b0, hc0, cond_true, mmark_eq, cal_some, if_b0, hd]; rfl, inv⟩
    | true =>
      have hd0 := hd
      obtain ⟨o, -, ho7, rfl⟩ := (wn_nat (A := 0) (B := 7) (a := 0) (b := 7) rfl rfl (by omega) (by omega)).mp hd
      have emo : (nI m = nI o) ↔ m = o := nI_eq (by omega) (by omega)
      by_cases hmo : m = o
      · exact ⟨-1, h, h, by unfold fX_bar; rw [isMark_eq, cal_some, if_b0, hc0, cond_true, isMark_eq, cal_some, if_b0, hd0, cond_true, if_pos (emo.mpr hmo)]; rfl, by unfold fM_bar; rw [mmark_eq, cal_some, if_b0, hc0, cond_true, mmark_eq, cal_some, if_b0, hd0, cond_true, if_pos (emo.mpr hmo)]; rfl, inv⟩
      · have hbar : fT_hasBar h (nI m) (nI o) = some (bI (brd σ m o), h) := by
          unfold fT_hasBar
          rw [rd_at m 8 rfl rfl (by omega), cs.2.2.2 m (by omega), isIn_eq (Nat.lt_trans (brM_lt σ m) (by decide)) (by omega), cal_some, brM_bit σ m (by omega), retz_b]
        have mloop : ∀ (u : Hp) (K : Hp → RO), MS σ u → fM_bar_L23 K (nI m) (nI o) FU 0 u = bif brd σ m o then some (-3, u) else K u := by
          intro u K mu
          refine loopF (fun n (a : Int32 × Hp) => fM_bar_L23 K (nI m) (nI o) n a.1 a.2) (fun i a => a = (nI i, u) ∧ (List.range i).any (fun k => (σ 13 k == m && σ 14 k == o) || (σ 13 k == o && σ 14 k == m)) = false) (fun q => q = bif brd σ m o then some (-3, u) else K u) (σ 0 4) (by omega) ?_ ?_ 0 (0, u) (by omega) ⟨rfl, rfl⟩
          · rintro i a n hi ⟨rfl, hI⟩
            obtain ⟨b1, b2, -⟩ := w.2.2.2.2.2 i hi
            have e13 : ∀ z, z < 8 → ((nI (σ 13 i) = nI z) ↔ σ 13 i = z) := fun z hz => nI_eq (by omega) (by omega)
            have e14 : ∀ z, z < 8 → ((nI (σ 14 i) = nI z) ↔ σ 14 i = z) := fun z hz => nI_eq (by omega) (by omega)
            have hyes : ((σ 13 i == m && σ 14 i == o) || (σ 13 i == o && σ 14 i == m)) = true → brd σ m o = true := fun q => any_true hi q
            have hno : ((σ 13 i == m && σ 14 i == o) || (σ 13 i == o && σ 14 i == m)) = false → (∃ a' : Int32 × Hp, (a' = (nI (i + 1), u) ∧ (List.range (i + 1)).any (fun k => (σ 13 k == m && σ 14 k == o) || (σ 13 k == o && σ 14 k == m)) = false) ∧ fM_bar_L23 K (nI m) (nI o) n (nI i + 1) u = fM_bar_L23 K (nI m) (nI o) n a'.1 a'.2) := fun q => ⟨(nI (i + 1), u), ⟨rfl, by rw [any_succ, hI, q]; rfl⟩, by rw [n_s1]⟩
            simp only [fM_bar_L23, jn]
            rw [if_neg (fun q => by rw [mu.nb] at q; have := (n_le rfl rfl (by omega) (by omega)).mp q; omega), rd_at i 6 rfl rfl (by omega), rd_at (k := 41) i 6 rfl rfl (by omega), rd_at (k := 42) i 6 rfl rfl (by omega), rd_at (k := 42) i 6 rfl rfl (by omega), mu.a13 (by omega), mu.a14 (by omega)]
            by_cases c1 : σ 13 i = m
            · rw [if_pos ((e13 m (by omega)).mpr c1)]
              by_cases c2 : σ 14 i = o
              · rw [if_pos ((e14 o (by omega)).mpr c2)]
                right
                rw [hyes (by simp [c1, c2])]
                rfl
              · rw [if_neg (fun q => c2 ((e14 o (by omega)).mp q)), if_neg (fun q => hmo (c1.symm.trans ((e13 o (by omega)).mp q)))]
                left
                exact hno (by simp [c1, c2, hmo])
            · rw [if_neg (fun q => c1 ((e13 m (by omega)).mp q))]
              by_cases c3 : σ 13 i = o
              · rw [if_pos ((e13 o (by omega)).mpr c3)]
                by_cases c4 : σ 14 i = m
                · rw [if_pos ((e14 m (by omega)).mpr c4)]
                  right
                  rw [hyes (by simp [c3, c4])]
                  rfl
                · rw [if_neg (fun q => c4 ((e14 m (by omega)).mp q))]
                  left
                  exact hno (by simp [c1, c4])
              · rw [if_neg (fun q => c3 ((e13 o (by omega)).mp q))]
                left
                exact hno (by simp [c1, c3])
          · rintro a n ⟨rfl, hI⟩
            simp only [fM_bar_L23]
            rw [if_pos (by rw [mu.nb]; exact Int32.le_refl _), show brd σ m o = false from hI]
            rfl
        have e4 := cs.1 4 (by decide)
        cases hb : brd σ m o with
        | true => exact ⟨-3, h, h, by unfold fX_bar; rw [isMark_eq, cal_some, if_b0, hc0, cond_true, isMark_eq, cal_some, if_b0, hd0, cond_true, if_neg (fun q => hmo (emo.mp q)), hbar, cal_some, if_b0, hb]; rfl, by unfold fM_bar; rw [mmark_eq, cal_some, if_b0, hc0, cond_true, mmark_eq, cal_some, if_b0, hd0, cond_true, if_neg (fun q => hmo (emo.mp q)), mloop h _ ms, hb]; rfl, inv⟩
        | false =>
          by_cases h6 : σ 0 4 = 6
          · exact ⟨-2, h, h, by unfold fX_bar; rw [isMark_eq, cal_some, if_b0, hc0, cond_true, isMark_eq, cal_some, if_b0, hd0, cond_true, if_neg (fun q => hmo (emo.mp q)), hbar, cal_some, if_b0, hb, cond_false, if_neg (by rw [e4, h6]; decide)]; rfl, by unfold fM_bar; rw [mmark_eq, cal_some, if_b0, hc0, cond_true, mmark_eq, cal_some, if_b0, hd0, cond_true, if_neg (fun q => hmo (emo.mp q)), mloop h _ ms, hb, cond_false, if_pos (by rw [ms.nb, h6]; decide)]; rfl, inv⟩
          · have fx : FrX h (up (up (up (up h 3 2 1) 8 m (nI (brM σ m ||| 2 ^ o))) 8 o (nI (brM σ o ||| 2 ^ m))) 1 4 (nI (σ 0 4 + 1))) := fx_trans (fx_trans (fx_trans fx_stale (fx_put (by omega))) (fx_put (by omega))) (fx_put (by omega))
            have hst : up (up (up (up h 3 2 1) 8 m (nI (brM σ m ||| 2 ^ o))) 8 o (nI (brM σ o ||| 2 ^ m))) 1 4 (nI (σ 0 4 + 1)) 3 2 = 1 := by rw [up_ne _ (by decide), up_ne _ (by decide), up_ne _ (by decide)]; exact stale_1
            have cs1 : CS (bS σ m o) (up (up (up (up h 3 2 1) 8 m (nI (brM σ m ||| 2 ^ o))) 8 o (nI (brM σ o ||| 2 ^ m))) 1 4 (nI (σ 0 4 + 1))) := by
              refine ⟨fun i hi => ?_, fun p w' hp hw' => ?_, fun q w' hq hw' => ?_, fun x hx => ?_⟩
              · rw [up_k, up_ne _ (by decide), up_ne _ (by decide), up_ne _ (by decide)]
                by_cases h4 : i = 4
                · subst h4; rw [upd_same, bS_4]
                · rw [upd_ne h4, bS_0 h4]; exact cs.1 i hi
              · rw [bS_0 (by decide)] at hp
                rw [up_ne _ (by decide), up_ne _ (by decide), up_ne _ (by decide), up_ne _ (by decide), show pcF (bS σ m o) p w' = pcF σ p w' by unfold pcF sz; rw [bS_k (by decide) (by decide) (by decide), bS_k (by decide) (by decide) (by decide), bS_k (by decide) (by decide) (by decide), bS_k (by decide) (by decide) (by decide), bS_k (by decide) (by decide) (by decide)]]
                exact cs.2.1 p w' hp hw'
              · rw [bS_0 (by decide)] at hq
                rw [up_ne _ (by decide), up_ne _ (by decide), up_ne _ (by decide), up_ne _ (by decide), show cpF (bS σ m o) q w' = cpF σ q w' by
                  unfold cpF rw_ cl_ thM ntM
                  rw [show bS σ m o 2 = σ 2 from bS_k (by decide) (by decide) (by decide), show bS σ m o 4 = σ 4 from bS_k (by decide) (by decide) (by decide), show bS σ m o 6 = σ 6 from bS_k (by decide) (by decide) (by decide), show bS σ m o 7 = σ 7 from bS_k (by decide) (by decide) (by decide), show bS σ m o 8 = σ 8 from bS_k (by decide) (by decide) (by decide), show bS σ m o 9 = σ 9 from bS_k (by decide) (by decide) (by decide), show bS σ m o 10 = σ 10 from bS_k (by decide) (by decide) (by decide), show bS σ m o 11 = σ 11 from bS_k (by decide) (by decide) (by decide), show bS σ m o 12 = σ 12 from bS_k (by decide) (by decide) (by decide)]]
                exact cs.2.2.1 q w' hq hw'
              · rw [up_ne _ (by decide), up_k, up_k, up_ne _ (by decide), brM_bS (by omega) (by omega) hmo]
                by_cases q1 : x = m
                · rw [q1, upd_ne hmo, upd_same, if_pos rfl]
                · rw [if_neg q1]
                  by_cases q2 : x = o
                  · rw [q2, upd_same, if_pos rfl]
                  · rw [if_neg q2, upd_ne q2, upd_ne q1]; exact cs.2.2.2 x hx
            have wf : WF (bS σ m o) := by
              obtain ⟨w1, w2, w3, w4, w5, w6⟩ := w
              unfold WF sz
              rw [show bS σ m o 1 = σ 1 from bS_k (by decide) (by decide) (by decide), show bS σ m o 2 = σ 2 from bS_k (by decide) (by decide) (by decide), show bS σ m o 3 = σ 3 from bS_k (by decide) (by decide) (by decide), show bS σ m o 4 = σ 4 from bS_k (by decide) (by decide) (by decide), show bS σ m o 5 = σ 5 from bS_k (by decide) (by decide) (by decide), show bS σ m o 6 = σ 6 from bS_k (by decide) (by decide) (by decide), show bS σ m o 7 = σ 7 from bS_k (by decide) (by decide) (by decide), show bS σ m o 8 = σ 8 from bS_k (by decide) (by decide) (by decide), show bS σ m o 9 = σ 9 from bS_k (by decide) (by decide) (by decide), show bS σ m o 10 = σ 10 from bS_k (by decide) (by decide) (by decide), show bS σ m o 11 = σ 11 from bS_k (by decide) (by decide) (by decide), show bS σ m o 12 = σ 12 from bS_k (by decide) (by decide) (by decide), bS_0 (i := 0) (by decide), bS_0 (i := 1) (by decide), bS_0 (i := 2) (by decide), bS_0 (i := 3) (by decide), bS_4]
              refine ⟨⟨w1.1, w1.2.1, w1.2.2.1, w1.2.2.2.1, w1.2.2.2.2.1, w1.2.2.2.2.2.1, by omega⟩, w2, w3, w4, w5, fun k hk => ?_⟩
              rw [bS_13, bS_14]
              by_cases q : k = σ 0 4
              · rw [if_pos q, if_pos q]; exact ⟨by omega, by omega, hmo⟩
              · rw [if_neg q, if_neg q]; exact w6 k (by omega)
            have ex : fX_bar h (nI m) (nI o) = some (nI (σ 0 4 + 1), up (up (up (up h 3 2 1) 8 m (nI (brM σ m ||| 2 ^ o))) 8 o (nI (brM σ o ||| 2 ^ m))) 1 4 (nI (σ 0 4 + 1))) := by
              unfold fX_bar fT_addBar
              simp only [pt]
              rw [isMark_eq, cal_some, if_b0, hc0, cond_true, isMark_eq, cal_some, if_b0, hd0, cond_true, if_neg (fun q => hmo (emo.mp q)), hbar, cal_some, if_b0, hb, cond_false, if_pos (by rw [e4]; exact (n_lt (Y := 6) (b := 6) rfl rfl (by omega) (by omega)).mpr (by omega)), forget_eq, cal_some, rd_at m 8 rfl rfl (by omega), up_ne h (by decide), cs.2.2.2 m (by omega), n_one_shl (by omega), n_or, wr_at m 8 rfl rfl (by omega), rd_at o 8 rfl rfl (by omega), up_k (up h 3 2 1), upd_ne (fun q => hmo q.symm), up_ne h (by decide), cs.2.2.2 o (by omega), n_one_shl (by omega), n_or, wr_at o 8 rfl rfl (by omega)]
              simp only [ret1, cal_some]
              have e5 : up (up (up h 3 2 1) 8 m (nI (brM σ m ||| 2 ^ o))) 8 o (nI (brM σ o ||| 2 ^ m)) 1 4 = nI (σ 0 4) := by rw [up_ne _ (by decide), up_ne _ (by decide), up_ne h (by decide), e4]
              rw [up_k, upd_same, e5, n_s1]
            generalize up (up (up (up h 3 2 1) 8 m (nI (brM σ m ||| 2 ^ o))) 8 o (nI (brM σ o ||| 2 ^ m))) 1 4 (nI (σ 0 4 + 1)) = h1 at fx hst cs1 ex
            have ms1 := ms_x ms fx
            have ms2 : MS (bS σ m o) (up (up (up h1 41 (σ 0 4) (nI m)) 42 (σ 0 4) (nI o)) 28 16 (nI (σ 0 4 + 1))) := ((ms1.put 13 (σ 0 4) m (by decide) (by decide)).put 14 (σ 0 4) o (by decide) (by decide)).num 4 (σ 0 4 + 1) (by decide)
            refine ⟨_, h1, up (up (up h1 41 (σ 0 4) (nI m)) 42 (σ 0 4) (nI o)) 28 16 (nI (σ 0 4 + 1)), ex, ?_, inv_told kp fx wf cs1 hst (fm_trans (fm_trans (fm_put (by decide) (by decide)) (fm_put (by decide) (by decide))) (fm_num (by decide))) ms2 (fun p hp => by rw [bS_k (by decide) (by decide) (by decide)]; exact ho p hp)⟩
            have e6 : up h1 41 (σ 0 4) (nI m) 28 16 = nI (σ 0 4) := by rw [up_ne h1 (by decide), ms1.nb]
            have e7 : up (up h1 41 (σ 0 4) (nI m)) 42 (σ 0 4) (nI o) 28 16 = nI (σ 0 4) := by rw [up_ne _ (by decide), e6]
            unfold fM_bar
            simp only [pt]
            rw [mmark_eq, cal_some, if_b0, hc0, cond_true, mmark_eq, cal_some, if_b0, hd0, cond_true, if_neg (fun q => hmo (emo.mp q)), mloop h1 _ ms1, hb, cond_false, if_neg (by rw [ms1.nb]; exact fun q => h6 ((n_eq (Y := 6) (b := 6) rfl rfl (by omega) (by omega)).mp q)), wr_at (σ 0 4) 6 rfl ms1.nb (by omega), wr_at (σ 0 4) 6 rfl e6 (by omega), e7, n_s1, up_k, upd_same]
            rfl
end Ops6
