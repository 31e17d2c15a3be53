/-! THE INVARIANT, and the calls that tell numbers -/
theorem us_f (σ : Sg) {k a : Nat} (j v : Nat) (hk : a ≠ k) : us σ k j v a = σ a := by
  funext b
  simp [us, hk]
/-- what is kept: at cells of the class's second State, and in the reference's rows -/
def MK (σ : Sg) (h : Hp) : Prop := (∀ i, i < 5 → h 43 i = nI (σ 0 i)) ∧ (∀ k j, 1 ≤ k → k ≤ 5 → j < 5 → h 44 (5 * (k - 1) + j) = nI (σ k j)) ∧ (∀ j, j < 30 → h 45 j = nI (σ 6 j) ∧ h 45 (30 + j) = nI (σ 8 j) - 1 ∧ h 45 (60 + j) = nI (σ 9 j) - 1 ∧ h 45 (90 + j) = nI (σ 10 j) ∧ h 45 (120 + j) = nI (σ 11 j) - 1 ∧ h 45 (150 + j) = nI (σ 12 j)) ∧ (∀ j, j < 240 → h 46 j = nI (σ 7 j)) ∧ ∀ j, j < 6 → h 47 j = nI (σ 13 j) ∧ h 47 (6 + j) = nI (σ 14 j)
def KP (h : Hp) : Prop := (h 0 4 = 0 ∧ h 28 19 = 0) ∨ (h 0 4 = 1 ∧ h 28 19 = 1 ∧ ∃ σk : Sg, WF σk ∧ MK σk h ∧ CSt 2 9 10 11 σk h ∧ ∀ p, p < 5 → σk 5 p ≤ 1)
theorem KP.congr {h h' : Hp} (k : KP h) (h0 : h' 0 4 = h 0 4) (h1 : h' 28 19 = h 28 19) (h2 : h' 2 = h 2) (h3 : ∀ c, 9 ≤ c → c ≤ 11 → h' c = h c) (h4 : ∀ c, 43 ≤ c → c ≤ 47 → h' c = h c) : KP h' := by
  rcases k with ⟨a, b⟩ | ⟨a, b, σk, w, m, c, d⟩
  · exact Or.inl ⟨by rw [h0]; exact a, by rw [h1]; exact b⟩
  · refine Or.inr ⟨by rw [h0]; exact a, by rw [h1]; exact b, σk, w, ?_, ?_, d⟩
    · unfold MK at m ⊢
      rw [h4 43 (by decide) (by decide), h4 44 (by decide) (by decide), h4 45 (by decide) (by decide), h4 46 (by decide) (by decide), h4 47 (by decide) (by decide)]
      exact m
    · exact c.congr (fun i _ => by rw [h2]) (h3 9 (by decide) (by decide)) (h3 10 (by decide) (by decide)) (h3 11 (by decide) (by decide))
/-- what the class and the reference hold, the class's search apart; X: what holds of the search when it isn't stale -/
def InvX (X : Sg → Hp → Prop) (h : Hp) : Prop := ∃ σ : Sg, WF σ ∧ MS σ h ∧ CS σ h ∧ KP h ∧ (∀ p, p < 5 → σ 5 p ≤ 1) ∧ (h 3 2 = 1 ∨ (h 3 2 = 0 ∧ X σ h))
theorem forget_eq (h : Hp) : fS_forget h = some (0, up h 3 2 1) := by
  unfold fS_forget ptz
  rw [if_pos (Or.inr rfl)]
  rfl
/-- what a call that tells may change of the class's cells -/
def FrX (h h' : Hp) : Prop := (∀ k, 9 ≤ k → h' k = h k) ∧ h' 0 = h 0 ∧ h' 2 = h 2 ∧ h' 4 = h 4 ∧ h' 5 = h 5 ∧ ∀ j, j ≠ 2 → h' 3 j = h 3 j
def FrM (h h' : Hp) : Prop := (∀ k, k < 28 → h' k = h k) ∧ h' 28 19 = h 28 19 ∧ ∀ k, 43 ≤ k → k ≤ 47 → h' k = h k
section Ops
variable {X : Sg → Hp → Prop} {σ σ' : Sg} {h h1 h2 : Hp}
/-- the end of a call that told something and made the search stale -/
theorem inv_told (kp : KP h) (fx : FrX h h1) (w : WF σ') (cs : CS σ' h1) (hst : h1 3 2 = 1) (fm : FrM h1 h2) (ms : MS σ' h2) (ho : ∀ p, p < 5 → σ' 5 p ≤ 1) : InvX X h2 := by
  refine ⟨σ', w, ms, cs.congr (fun i _ => by rw [fm.1 1 (by decide)]) (fm.1 6 (by decide)) (fm.1 7 (by decide)) (fm.1 8 (by decide)), ?_, ho, Or.inl (by rw [fm.1 3 (by decide)]; exact hst)⟩
  exact kp.congr (by rw [fm.1 0 (by decide), fx.2.1]) (by rw [fm.2.1, fx.1 28 (by decide)]) (by rw [fm.1 2 (by decide), fx.2.2.1]) (fun c c1 c2 => by rw [fm.1 c (by omega), fx.1 c c1]) (fun c c1 c2 => by rw [fm.2.2 c c1 c2, fx.1 c (by omega)])
/-- the reference's cells stay when the class's are written -/
theorem ms_x (ms : MS σ h) (fx : FrX h h1) : MS σ h1 := ms.congr (fun j _ _ => by rw [fx.1 28 (by decide)]) (fun k k1 _ => fx.1 k (by omega))
theorem putCF_eq {W v : Int32} {c w : Nat} (w0 : WF σ) (hc : c < σ 0 3) (hW : W = nI w) (hw : w < 10) : fT_putCopyFact h (nI c) W v = some (0, up h 7 (10 * c + w) v) := by
  have h5 := w0.nc_le
  unfold fT_putCopyFact
  rw [wr_at (10 * c + w) 300 rfl (n_ix (Mm := 10) rfl hW) (by omega)]
  rfl
/-- a copy's row gets a new number -/
theorem cs_putC {v : Int32} {c w : Nat} (cs : CS σ h) (hw : w < 10) (e0 : ∀ i, i < 5 → σ' 0 i = σ 0 i) (e1 : ∀ p w, p < σ 0 2 → w < 6 → pcF σ' p w = pcF σ p w) (e2 : ∀ q w', q < σ 0 3 → w' < 10 → cpF σ' q w' = if q = c ∧ w' = w then v else cpF σ q w') (e3 : ∀ m, m < 8 → brM σ' m = brM σ m) : CS σ' (up h 7 (10 * c + w) v) := by
  refine ⟨fun i hi => ?_, fun p w' hp hw' => ?_, fun q w' hq hw' => ?_, fun m hm => ?_⟩
  · rw [up_ne h (by decide), e0 i hi]; exact cs.1 i hi
  · rw [e0 2 (by decide)] at hp
    rw [up_ne h (by decide), e1 p w' hp hw']; exact cs.2.1 p w' hp hw'
  · rw [e0 3 (by decide)] at hq
    rw [up_k, e2 q w' hq hw']
    by_cases he : q = c ∧ w' = w
    · rw [if_pos he, he.1, he.2, upd_same]
    · rw [if_neg he, upd_ne (fun z => he (by omega))]
      exact cs.2.2.1 q w' hq hw'
  · rw [up_ne h (by decide), e3 m hm]; exact cs.2.2.2 m hm
theorem cs_stale (cs : CS σ h) : CS σ (up h 3 2 1) := cs.congr (fun i _ => by rw [up_ne h (by decide)]) (up_ne h (by decide) _ _) (up_ne h (by decide) _ _) (up_ne h (by decide) _ _)
theorem fx_put {k j : Nat} {v : Int32} (hk : k = 1 ∨ k = 6 ∨ k = 7 ∨ k = 8) : FrX h (up h k j v) :=
  ⟨fun a ha => up_ne h (by omega) _ _, up_ne h (by omega) _ _, up_ne h (by omega) _ _, up_ne h (by omega) _ _, up_ne h (by omega) _ _, fun b _ => by rw [up_ne h (by omega)]⟩
theorem fx_stale : FrX h (up h 3 2 1) := ⟨fun a ha => up_ne h (by omega) _ _, up_ne h (by decide) _ _, up_ne h (by decide) _ _, up_ne h (by decide) _ _, up_ne h (by decide) _ _, fun b hb => by rw [up_k, upd_ne hb]⟩
theorem fx_trans (a : FrX h h1) (b : FrX h1 h2) : FrX h h2 := ⟨fun k hk => by rw [b.1 k hk, a.1 k hk], by rw [b.2.1, a.2.1], by rw [b.2.2.1, a.2.2.1], by rw [b.2.2.2.1, a.2.2.2.1], by rw [b.2.2.2.2.1, a.2.2.2.2.1], fun j hj => by rw [b.2.2.2.2.2 j hj, a.2.2.2.2.2 j hj]⟩
theorem fx_rfl : FrX h h := ⟨fun _ _ => rfl, rfl, rfl, rfl, rfl, fun _ _ => rfl⟩
theorem fm_put {k j : Nat} {v : Int32} (hk : 28 < k) (hk2 : k ≤ 42 ∨ 47 < k) : FrM h (up h k j v) := ⟨fun a ha => up_ne h (by omega) _ _, by rw [up_ne h (by omega)], fun a a1 a2 => up_ne h (by omega) _ _⟩
theorem fm_num {j : Nat} {v : Int32} (hj : j ≠ 19) : FrM h (up h 28 j v) := ⟨fun a ha => up_ne h (by omega) _ _, by rw [up_k, upd_ne (fun q => hj q.symm)], fun a a1 a2 => up_ne h (by omega) _ _⟩
theorem fm_trans (a : FrM h h1) (b : FrM h1 h2) : FrM h h2 := ⟨fun k hk => by rw [b.1 k hk, a.1 k hk], by rw [b.2.1, a.2.1], fun k k1 k2 => by rw [b.2.2 k k1 k2, a.2.2 k k1 k2]⟩
theorem fm_rfl : FrM h h := ⟨fun _ _ => rfl, rfl, fun _ _ _ => rfl⟩
theorem stale_1 : up h 3 2 1 3 2 = 1 := by rw [up_k, upd_same]
theorem brM_us {k j v m : Nat} (hk : k ≠ 0) (h13 : k ≠ 13) (h14 : k ≠ 14) : brM (us σ k j v) m = brM σ m := by
  unfold brM brd
  rw [us_f σ j v (Ne.symm hk), us_f σ j v (Ne.symm h13), us_f σ j v (Ne.symm h14)]
theorem pcF_us {k j v p w : Nat} (hk : 6 ≤ k) : pcF (us σ k j v) p w = pcF σ p w := by
  unfold pcF sz
  rw [us_f σ j v (show 1 ≠ k by omega), us_f σ j v (show 2 ≠ k by omega), us_f σ j v (show 3 ≠ k by omega), us_f σ j v (show 4 ≠ k by omega), us_f σ j v (show 5 ≠ k by omega)]
/-- letters, wear, day, shade of a copy -/
theorem cpF_us {k c v q w : Nat} (hk : 8 ≤ k) (hk2 : k ≤ 12) (hw : w < 10) : cpF (us σ k c v) q w = if q = c ∧ w = k - 5 then enc k v else cpF σ q w := by
  have e2 := us_f σ c v (show 2 ≠ k by omega)
  have e4 := us_f σ c v (show 4 ≠ k by omega)
  have e6 := us_f σ c v (show 6 ≠ k by omega)
  have e7 := us_f σ c v (show 7 ≠ k by omega)
  have er : rw_ (us σ k c v) q = rw_ σ q := by unfold rw_; rw [e2, e4, e6]
  have el : cl_ (us σ k c v) q = cl_ σ q := by unfold cl_; rw [e2, e4, e6]
  have et : thM (us σ k c v) q = thM σ q := by unfold thM; rw [e7]
  have en : ntM (us σ k c v) q = ntM σ q := by unfold ntM; rw [e7]
  unfold cpF
  rw [er, el, et, en, e6]
  rcases (show w = 0 ∨ w = 1 ∨ w = 2 ∨ w = 3 ∨ w = 4 ∨ w = 5 ∨ w = 6 ∨ w = 7 ∨ w = 8 ∨ w = 9 by omega) with rfl | rfl | rfl | rfl | rfl | rfl | rfl | rfl | rfl | rfl <;>
  rcases (show k = 8 ∨ k = 9 ∨ k = 10 ∨ k = 11 ∨ k = 12 by omega) with rfl | rfl | rfl | rfl | rfl <;>
  (by_cases hq : q = c <;> simp [us, enc, hq])
theorem wf_us {k c v : Nat} (w : WF σ) (hk : 8 ≤ k) (hk2 : k ≤ 12) (hv : v ≤ (if k = 8 then 3 else if k = 9 then 4 else if k = 10 then 99 else if k = 11 then 1000 else 5)) : WF (us σ k c v) := by
  have e : ∀ a, a ≠ k → us σ k c v a = σ a := fun a ha => us_f σ c v ha
  obtain ⟨w1, w2, w3, w4, w5, w6⟩ := w
  unfold WF sz
  rw [e 0 (by omega), e 1 (by omega), e 2 (by omega), e 3 (by omega), e 4 (by omega), e 5 (by omega), e 6 (by omega), e 7 (by omega), e 13 (by omega), e 14 (by omega)]
  refine ⟨w1, w2, w3, w4, fun q hq => ?_, w6⟩
  obtain ⟨a1, a2, a3, a4, a5, a6⟩ := w5 q hq
  refine ⟨a1, ?_⟩
  rcases (show k = 8 ∨ k = 9 ∨ k = 10 ∨ k = 11 ∨ k = 12 by omega) with rfl | rfl | rfl | rfl | rfl <;>
  (simp at hv; by_cases hc : q = c <;> simp [us, hc] <;> simp_all)
end Ops
