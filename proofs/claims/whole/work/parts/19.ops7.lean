/-! THE CALL piece -/
section Ops7
variable {X : Sg → Hp → Prop} {σ : Sg} {h : Hp}
/-- a piece of r rows and c columns, k copies of it so far, comes behind the others -/
def pK (σ : Sg) (r c mg k : Nat) : Sg := fun a b =>
  if a = 0 then (if b = 3 then σ 0 3 + k else σ 0 b)
  else if a ≤ 5 then (if b = σ 0 2 then (if a = 1 then r else if a = 2 then c else if a = 3 then mg else if a = 4 then σ 0 3 else 0) else σ a b)
  else if a = 7 then (if 8 * σ 0 3 ≤ b ∧ b < 8 * (σ 0 3 + k) then 2 else σ 7 b)
  else if a ≤ 12 then (if σ 0 3 ≤ b ∧ b < σ 0 3 + k then (if a = 6 then σ 0 2 else 0) else σ a b)
  else σ a b
def pS (σ : Sg) (r c mg : Nat) : Sg := us (pK σ r c mg (r * c)) 0 2 (σ 0 2 + 1)
section Acc
variable {r c mg k : Nat}
theorem pK_0 {b : Nat} : pK σ r c mg k 0 b = if b = 3 then σ 0 3 + k else σ 0 b := rfl
theorem pK_p {a b : Nat} (h1 : 1 ≤ a) (h2 : a ≤ 5) (hb : b ≠ σ 0 2) : pK σ r c mg k a b = σ a b := by unfold pK; rw [if_neg (by omega), if_pos h2, if_neg hb]
theorem pK_1 : pK σ r c mg k 1 (σ 0 2) = r := by simp [pK]
theorem pK_2 : pK σ r c mg k 2 (σ 0 2) = c := by simp [pK]
theorem pK_3 : pK σ r c mg k 3 (σ 0 2) = mg := by simp [pK]
theorem pK_4 : pK σ r c mg k 4 (σ 0 2) = σ 0 3 := by simp [pK]
theorem pK_5 : pK σ r c mg k 5 (σ 0 2) = 0 := by simp [pK]
theorem pK_7 {b : Nat} : pK σ r c mg k 7 b = if 8 * σ 0 3 ≤ b ∧ b < 8 * (σ 0 3 + k) then 2 else σ 7 b := rfl
theorem pK_c {a b : Nat} (h1 : 6 ≤ a) (h2 : a ≤ 12) (h7 : a ≠ 7) : pK σ r c mg k a b = if σ 0 3 ≤ b ∧ b < σ 0 3 + k then (if a = 6 then σ 0 2 else 0) else σ a b := by unfold pK; rw [if_neg (by omega), if_neg (by omega), if_neg h7, if_pos h2]
theorem pK_b {a b : Nat} (h1 : 13 ≤ a) : pK σ r c mg k a b = σ a b := by unfold pK; rw [if_neg (by omega), if_neg (by omega), if_neg (by omega), if_neg (by omega)]
theorem pS_k {a : Nat} (ha : a ≠ 0) : pS σ r c mg a = pK σ r c mg (r * c) a := us_f _ _ _ ha
theorem pS_02 : pS σ r c mg 0 2 = σ 0 2 + 1 := us_s _ _ _ _
theorem pS_03 : pS σ r c mg 0 3 = σ 0 3 + r * c := by unfold pS; rw [us_j _ (by decide), pK_0, if_pos rfl]
theorem pS_0 {b : Nat} (h2 : b ≠ 2) (h3 : b ≠ 3) : pS σ r c mg 0 b = σ 0 b := by unfold pS; rw [us_j _ h2, pK_0, if_neg h3]
theorem pS_szn : sz (pS σ r c mg) (σ 0 2) = r * c := by unfold sz; rw [pS_k (by decide), pS_k (by decide), pK_1, pK_2]
theorem pS_sz {p : Nat} (hp : p ≠ σ 0 2) : sz (pS σ r c mg) p = sz σ p := by unfold sz; rw [pS_k (by decide), pS_k (by decide), pK_p (by decide) (by decide) hp, pK_p (by decide) (by decide) hp]
theorem wf_pS (w : WF σ) (h5 : σ 0 2 < 5) (r1 : 1 ≤ r) (r2 : r ≤ 2) (c1 : 1 ≤ c) (c2 : c ≤ 3) (hm : mg ≤ 15) : WF (pS σ r c mg) := by
  have hend : ∀ p, p < σ 0 2 → σ 4 p + sz σ p ≤ σ 0 3 := fun p hp => w.end_le hp
  obtain ⟨w1, w2, w3, w4, w5, w6⟩ := w
  refine ⟨?_, fun p hp => ?_, ⟨fun _ => ?_, fun p hp => ?_, fun q => ?_, fun p hp => ?_⟩, fun p x hp h1 h2 => ?_, fun x hx => ?_, fun k hk => ?_⟩
  · rw [pS_0 (b := 0) (by decide) (by decide), pS_0 (b := 1) (by decide) (by decide), pS_0 (b := 4) (by decide) (by decide), pS_02]
    exact ⟨w1.1, w1.2.1, w1.2.2.1, w1.2.2.2.1, w1.2.2.2.2.1, by omega, w1.2.2.2.2.2.2⟩
  · rw [pS_02] at hp
    rw [pS_k (by decide), pS_k (by decide), pS_k (by decide), pS_k (by decide)]
    by_cases e : p = σ 0 2
    · rw [e, pK_1, pK_2, pK_3, pK_5]; omega
    · rw [pK_p (by decide) (by decide) e, pK_p (by decide) (by decide) e, pK_p (by decide) (by decide) e, pK_p (by decide) (by decide) e]; exact w2 p (by omega)
  · rw [pS_k (by decide)]
    by_cases e : 0 = σ 0 2
    · rw [show pK σ r c mg (r * c) 4 0 = pK σ r c mg (r * c) 4 (σ 0 2) by rw [← e], pK_4]; exact w3.2.2.1 e.symm
    · rw [pK_p (by decide) (by decide) e]; exact w3.1 (by omega)
  · rw [pS_02] at hp
    rw [pS_k (by decide), pS_sz (show p ≠ σ 0 2 by omega), pK_p (b := p) (by decide) (by decide) (by omega)]
    by_cases e : p + 1 = σ 0 2
    · rw [e, pK_4]; exact w3.2.2.2 p e
    · rw [pK_p (by decide) (by decide) e]; exact w3.2.1 p (by omega)
  · rw [pS_02] at q; omega
  · rw [pS_02] at hp
    rw [pS_03, show p = σ 0 2 by omega, pS_szn, pS_k (by decide), pK_4]
  · rw [pS_02] at hp
    rw [pS_k (by decide)] at h1 h2
    rw [pS_k (by decide), pK_c (by decide) (by decide) (by decide)]
    by_cases e : p = σ 0 2
    · rw [e, pK_4] at h1
      rw [e, pK_4, pS_szn] at h2
      rw [if_pos ⟨h1, h2⟩, if_pos rfl, e]
    · rw [pK_p (by decide) (by decide) e] at h1
      rw [pK_p (by decide) (by decide) e, pS_sz e] at h2
      have := hend p (by omega)
      rw [if_neg (by omega)]
      exact w4 p x (by omega) h1 h2
  · rw [pS_03] at hx
    rw [pS_k (by decide), pS_k (by decide), pS_k (by decide), pS_k (by decide), pS_k (by decide), pS_k (by decide), pK_c (a := 8) (by decide) (by decide) (by decide), pK_c (a := 9) (by decide) (by decide) (by decide), pK_c (a := 10) (by decide) (by decide) (by decide), pK_c (a := 11) (by decide) (by decide) (by decide), pK_c (a := 12) (by decide) (by decide) (by decide)]
    by_cases e : σ 0 3 ≤ x
    · rw [if_pos ⟨e, hx⟩]
      refine ⟨fun m hm => by rw [pK_7, if_pos (by omega)]; omega, ?_⟩
      simp [e, hx]
    · have := w5 x (by omega)
      refine ⟨fun m hm => by rw [pK_7, if_neg (by omega)]; exact this.1 m hm, ?_⟩
      simp only [e, false_and, if_false]
      exact this.2
  · rw [pS_0 (by decide) (by decide)] at hk
    rw [pS_k (by decide), pS_k (by decide), pK_b (by decide), pK_b (by decide)]
    exact w6 k hk
/-- the class's row of a copy of the new piece -/
theorem cp_new (c1 : 1 ≤ c) {i j : Nat} (hj : j < c) (hk : i * c + j < r * c) : cpF (pS σ r c mg) (σ 0 3 + (i * c + j)) 0 = nI (σ 0 2) ∧ cpF (pS σ r c mg) (σ 0 3 + (i * c + j)) 1 = nI i ∧ cpF (pS σ r c mg) (σ 0 3 + (i * c + j)) 2 = nI j ∧ cpF (pS σ r c mg) (σ 0 3 + (i * c + j)) 3 = -1 ∧ cpF (pS σ r c mg) (σ 0 3 + (i * c + j)) 4 = -1 ∧ cpF (pS σ r c mg) (σ 0 3 + (i * c + j)) 5 = 0 ∧ cpF (pS σ r c mg) (σ 0 3 + (i * c + j)) 6 = -1 ∧ cpF (pS σ r c mg) (σ 0 3 + (i * c + j)) 7 = 0 ∧ cpF (pS σ r c mg) (σ 0 3 + (i * c + j)) 8 = 0 ∧ cpF (pS σ r c mg) (σ 0 3 + (i * c + j)) 9 = 0 := by
  have hin : σ 0 3 ≤ σ 0 3 + (i * c + j) ∧ σ 0 3 + (i * c + j) < σ 0 3 + r * c := by omega
  have e6 : pS σ r c mg 6 (σ 0 3 + (i * c + j)) = σ 0 2 := by rw [pS_k (by decide), pK_c (by decide) (by decide) (by decide), if_pos hin, if_pos rfl]
  have e4 : pS σ r c mg 4 (σ 0 2) = σ 0 3 := by rw [pS_k (by decide), pK_4]
  have e2 : pS σ r c mg 2 (σ 0 2) = c := by rw [pS_k (by decide), pK_2]
  have ez : ∀ a, 8 ≤ a → a ≤ 12 → pS σ r c mg a (σ 0 3 + (i * c + j)) = 0 := fun a a1 a2 => by rw [pS_k (by omega), pK_c (by omega) a2 (by omega), if_pos hin, if_neg (by omega)]
  have e7 : ∀ m, m < 8 → pS σ r c mg 7 (8 * (σ 0 3 + (i * c + j)) + m) = 2 := fun m hm => by rw [pS_k (by decide), pK_7, if_pos (by omega)]
  have er : rw_ (pS σ r c mg) (σ 0 3 + (i * c + j)) = i := by
    unfold rw_
    rw [e6, e4, e2, Nat.add_sub_cancel_left, Nat.add_comm, Nat.add_mul_div_right _ _ c1, Nat.div_eq_of_lt hj, Nat.zero_add]
  have el : cl_ (pS σ r c mg) (σ 0 3 + (i * c + j)) = j := by
    unfold cl_
    rw [e6, e4, e2, Nat.add_sub_cancel_left, Nat.add_comm, Nat.add_mul_mod_self_right, Nat.mod_eq_of_lt hj]
  have et : thM (pS σ r c mg) (σ 0 3 + (i * c + j)) = 0 := by
    unfold thM
    rw [msk_ext (g := fun _ => false) (fun m hm => by rw [e7 m hm]; rfl)]
    rfl
  have en : ntM (pS σ r c mg) (σ 0 3 + (i * c + j)) = 0 := by
    unfold ntM
    rw [msk_ext (g := fun _ => false) (fun m hm => by rw [e7 m hm]; rfl)]
    rfl
  unfold cpF
  rw [e6, er, el, et, en, ez 8 (by decide) (by decide), ez 9 (by decide) (by decide), ez 10 (by decide) (by decide), ez 11 (by decide) (by decide), ez 12 (by decide) (by decide)]
  have m1 : nI 0 - 1 = (-1 : Int32) := by decide
  exact ⟨rfl, rfl, rfl, m1, m1, rfl, m1, rfl, rfl, rfl⟩
theorem cp_old (w : WF σ) {q x : Nat} (hq : q < σ 0 3) (hx : x < 10) : cpF (pS σ r c mg) q x = cpF σ q x := by
  have hp := (w.po hq).1
  have ec : ∀ a, 6 ≤ a → a ≤ 12 → a ≠ 7 → pS σ r c mg a q = σ a q := fun a a1 a2 a3 => by rw [pS_k (by omega), pK_c a1 a2 a3, if_neg (by omega)]
  have e4 : pS σ r c mg 4 (σ 6 q) = σ 4 (σ 6 q) := by rw [pS_k (by decide), pK_p (by decide) (by decide) (by omega)]
  have e2 : pS σ r c mg 2 (σ 6 q) = σ 2 (σ 6 q) := by rw [pS_k (by decide), pK_p (by decide) (by decide) (by omega)]
  have e7 : ∀ m, m < 8 → pS σ r c mg 7 (8 * q + m) = σ 7 (8 * q + m) := fun m hm => by rw [pS_k (by decide), pK_7, if_neg (by omega)]
  have er : rw_ (pS σ r c mg) q = rw_ σ q := by unfold rw_; rw [ec 6 (by decide) (by decide) (by decide), e4, e2]
  have el : cl_ (pS σ r c mg) q = cl_ σ q := by unfold cl_; rw [ec 6 (by decide) (by decide) (by decide), e4, e2]
  have et : thM (pS σ r c mg) q = thM σ q := by unfold thM; exact msk_ext (fun m hm => by rw [e7 m hm])
  have en : ntM (pS σ r c mg) q = ntM σ q := by unfold ntM; exact msk_ext (fun m hm => by rw [e7 m hm])
  unfold cpF
  rw [er, el, et, en, ec 6 (by decide) (by decide) (by decide), ec 8 (by decide) (by decide) (by decide), ec 9 (by decide) (by decide) (by decide), ec 10 (by decide) (by decide) (by decide), ec 11 (by decide) (by decide) (by decide), ec 12 (by decide) (by decide) (by decide)]
end Acc
theorem addCopy_eq {u : Hp} {p i j q : Nat} (hq : q < 30) (hu : u 1 3 = nI q) : ∃ u', fT_addCopy u (nI p) (nI i) (nI j) = some (0, u') ∧ (∀ z, z ≠ 1 → z ≠ 7 → u' z = u z) ∧ (∀ y, y ≠ 3 → u' 1 y = u 1 y) ∧ u' 1 3 = nI (q + 1) ∧ (∀ q' x, x < 10 → q' ≠ q → u' 7 (10 * q' + x) = u 7 (10 * q' + x)) ∧ (u' 7 (10 * q + 0) = nI p ∧ u' 7 (10 * q + 1) = nI i ∧ u' 7 (10 * q + 2) = nI j ∧ u' 7 (10 * q + 3) = -1 ∧ u' 7 (10 * q + 4) = -1 ∧ u' 7 (10 * q + 5) = 0 ∧ u' 7 (10 * q + 6) = -1 ∧ u' 7 (10 * q + 7) = 0 ∧ u' 7 (10 * q + 8) = 0 ∧ u' 7 (10 * q + 9) = 0) := by
  have ix : ∀ (W : Int32) (x : Nat), W = nI x → nI q * 10 + W = nI (10 * q + x) := fun W x hW => n_ix (Mm := 10) rfl hW
  unfold fT_addCopy
  simp only [bnd, pt, ret1]
  rw [hu, wr_at (10 * q + 0) 300 rfl (ix 0 0 rfl) (by omega), wr_at (10 * q + 1) 300 rfl (ix 1 1 rfl) (by omega), wr_at (10 * q + 2) 300 rfl (ix 2 2 rfl) (by omega), wr_at (10 * q + 3) 300 rfl (ix 3 3 rfl) (by omega), wr_at (10 * q + 4) 300 rfl (ix 4 4 rfl) (by omega), wr_at (10 * q + 5) 300 rfl (ix 5 5 rfl) (by omega), wr_at (10 * q + 6) 300 rfl (ix 6 6 rfl) (by omega), wr_at (10 * q + 7) 300 rfl (ix 7 7 rfl) (by omega), wr_at (10 * q + 8) 300 rfl (ix 8 8 rfl) (by omega), wr_at (10 * q + 9) 300 rfl (ix 9 9 rfl) (by omega)]
  refine ⟨_, rfl, fun z h1 h7 => ?_, fun y hy => ?_, ?_, fun q' x hx hq' => ?_, ?_⟩
  · rw [up_ne _ h1]
    iterate 10 rw [up_ne _ h7]
  · rw [up_k, upd_ne hy]
    iterate 10 rw [up_ne _ (show 1 ≠ 7 by decide)]
  · rw [up_k, upd_same]
    iterate 10 rw [up_ne _ (show 1 ≠ 7 by decide)]
    rw [hu, n_s1]
  · rw [up_ne _ (show 7 ≠ 1 by decide)]
    iterate 10 rw [up_k, upd_ne (by omega)]
  · rw [up_ne _ (show 7 ≠ 1 by decide)]
    simp only [up_k]
    simp [upd]
end Ops7
