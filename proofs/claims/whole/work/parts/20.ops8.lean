/-! THE CALL piece, on both sides -/
section Ops8
variable {X : Sg → Hp → Prop} {σ : Sg} {h : Hp}
/-- the class's cells while the new piece's copies come: k are there -/
def PC (σ : Sg) (r c mg : Nat) (h : Hp) (k : Nat) (u : Hp) : Prop := (∀ i, i < 5 → u 1 i = nI (pK σ r c mg k 0 i)) ∧ (∀ p x, p < σ 0 2 + 1 → x < 6 → u 6 (6 * p + x) = nI (pcF (pS σ r c mg) p x)) ∧ (∀ q x, q < σ 0 3 + k → x < 10 → u 7 (10 * q + x) = cpF (pS σ r c mg) q x) ∧ (∀ m, m < 8 → u 8 m = nI (brM σ m)) ∧ FrX h u ∧ u 3 2 = 1
theorem brM_pS {r c mg m : Nat} : brM (pS σ r c mg) m = brM σ m := by
  unfold brM brd
  have e13 : pS σ r c mg 13 = σ 13 := by funext b; rw [pS_k (by decide), pK_b (by decide)]
  have e14 : pS σ r c mg 14 = σ 14 := by funext b; rw [pS_k (by decide), pK_b (by decide)]
  rw [e13, e14, pS_0 (by decide) (by decide)]
theorem x_col {r c mg i : Nat} {K : Hp → RO} {P : RO → Prop} (w : WF σ) (h5 : σ 0 2 < 5) (c1 : 1 ≤ c) (c2 : c ≤ 3) (r2 : r ≤ 2) (hi : i < r) {u : Hp} (hu : PC σ r c mg h (i * c) u) (hK : ∀ u', PC σ r c mg h ((i + 1) * c) u' → P (K u')) : P (fT_addPiece_L95 K (nI r) (nI c) (nI (σ 0 2)) (nI i) FU 0 u) := by
  have hrc : (i + 1) * c ≤ r * c := Nat.mul_le_mul_right c hi
  have hrc6 : r * c ≤ 2 * 3 := Nat.mul_le_mul r2 c2
  have hic : (i + 1) * c = i * c + c := Nat.succ_mul i c
  have hnc : σ 0 3 ≤ 6 * σ 0 2 := by
    cases hn : σ 0 2 with
    | zero => rw [w.2.2.1.2.2.1 hn]; omega
    | succ p =>
      rw [w.2.2.1.2.2.2 p hn.symm]
      have h1 := w.fi_le (p := p) (by omega)
      have h2 := w.sz_le (p := p) (by omega)
      omega
  refine loopF (fun n (a : Int32 × Hp) => fT_addPiece_L95 K (nI r) (nI c) (nI (σ 0 2)) (nI i) n a.1 a.2) (fun j a => a.1 = nI j ∧ PC σ r c mg h (i * c + j) a.2) P c (by omega) ?_ ?_ 0 (0, u) (by omega) ⟨rfl, hu⟩
  · rintro j ⟨x, v⟩ n hj ⟨e, hv⟩
    dsimp only at e hv
    subst e
    left
    simp only [fT_addPiece_L95]
    have hq : v 1 3 = nI (σ 0 3 + (i * c + j)) := hv.1 3 (by decide)
    obtain ⟨v', e1, e2, e3, e4, e5, e6⟩ := addCopy_eq (u := v) (p := σ 0 2) (i := i) (j := j) (q := σ 0 3 + (i * c + j)) (by omega) hq
    refine ⟨(nI (j + 1), v'), ⟨rfl, ?_, ?_, ?_, ?_, ?_, ?_⟩, ?_⟩
    · intro y hy
      by_cases h3 : y = 3
      · subst h3
        show v' 1 3 = _
        rw [e4, pK_0, if_pos rfl]
        congr 1
      · show v' 1 y = _
        rw [e3 y h3, hv.1 y hy, pK_0, if_neg h3, pK_0, if_neg h3]
    · intro p x hp hx
      show v' 6 _ = _
      rw [e2 6 (by decide) (by decide)]
      exact hv.2.1 p x hp hx
    · intro q x hq2 hx
      show v' 7 _ = _
      by_cases he : q = σ 0 3 + (i * c + j)
      · subst he
        obtain ⟨n0, n1, n2, n3, n4, n5, n6, n7, n8, n9⟩ := cp_new (σ := σ) (r := r) (c := c) (mg := mg) c1 (i := i) (j := j) hj (by omega)
        obtain ⟨m0, m1, m2, m3, m4, m5, m6, m7, m8, m9⟩ := e6
        rcases (show x = 0 ∨ x = 1 ∨ x = 2 ∨ x = 3 ∨ x = 4 ∨ x = 5 ∨ x = 6 ∨ x = 7 ∨ x = 8 ∨ x = 9 by omega) with rfl | rfl | rfl | rfl | rfl | rfl | rfl | rfl | rfl | rfl
        · rw [m0, n0]
        · rw [m1, n1]
        · rw [m2, n2]
        · rw [m3, n3]
        · rw [m4, n4]
        · rw [m5, n5]
        · rw [m6, n6]
        · rw [m7, n7]
        · rw [m8, n8]
        · rw [m9, n9]
      · rw [e5 q x hx he]
        exact hv.2.2.1 q x (by omega) hx
    · intro m hm
      show v' 8 m = _
      rw [e2 8 (by decide) (by decide)]
      exact hv.2.2.2.1 m hm
    · show FrX h v'
      refine fx_trans hv.2.2.2.2.1 ⟨fun k hk => e2 k (by omega) (by omega), e2 0 (by decide) (by decide), e2 2 (by decide) (by decide), e2 4 (by decide) (by decide), e2 5 (by decide) (by decide), fun b _ => by rw [e2 3 (by decide) (by decide)]⟩
    · show v' 3 2 = 1
      rw [e2 3 (by decide) (by decide)]
      exact hv.2.2.2.2.2
    · rw [if_neg (fun q => by have := (n_le rfl rfl (by omega) (by omega)).mp q; omega), e1, cal_some, n_s1]
  · rintro ⟨x, v⟩ n ⟨e, hv⟩
    dsimp only at e hv
    subst e
    simp only [fT_addPiece_L95]
    rw [if_pos (Int32.le_refl _)]
    rw [← hic] at hv
    exact hK v hv
theorem x_rows {r c mg : Nat} {K : Hp → RO} {P : RO → Prop} (w : WF σ) (h5 : σ 0 2 < 5) (c1 : 1 ≤ c) (c2 : c ≤ 3) (r2 : r ≤ 2) {u : Hp} (hu : PC σ r c mg h 0 u) (hK : ∀ u', PC σ r c mg h (r * c) u' → P (K u')) : P (fT_addPiece_L86 K (nI r) (nI c) (nI (σ 0 2)) FU 0 u) := by
  refine loopK (fun n (a : Int32 × Hp) => fT_addPiece_L86 K (nI r) (nI c) (nI (σ 0 2)) n a.1 a.2) (fun i a => a.1 = nI i ∧ PC σ r c mg h (i * c) a.2) P r (by omega) ?_ ?_ 0 (0, u) (by omega) ⟨rfl, by rw [Nat.zero_mul]; exact hu⟩
  · rintro i ⟨x, v⟩ n hi ⟨e, hv⟩ ih
    dsimp only at e hv
    subst e
    simp only [fT_addPiece_L86]
    rw [if_neg (fun q => by have := (n_le rfl rfl (by omega) (by omega)).mp q; omega)]
    refine x_col w h5 c1 c2 r2 hi hv (fun v' hv' => ?_)
    rw [n_s1]
    exact ih (nI (i + 1), v') ⟨rfl, hv'⟩
  · rintro ⟨x, v⟩ n ⟨e, hv⟩
    dsimp only at e hv
    subst e
    simp only [fT_addPiece_L86]
    rw [if_pos (Int32.le_refl _)]
    exact hK v hv
theorem x_piece {r c mg : Nat} (w : WF σ) (cs : CS σ h) (h5 : σ 0 2 < 5) (r1 : 1 ≤ r) (r2 : r ≤ 2) (c1 : 1 ≤ c) (c2 : c ≤ 3) (hm : mg ≤ 15) : ∃ u, fT_addPiece (up h 3 2 1) (nI r) (nI c) (nI mg) = some (nI (σ 0 2), u) ∧ CS (pS σ r c mg) u ∧ FrX h u ∧ u 3 2 = 1 := by
  have hrc6 : r * c ≤ 2 * 3 := Nat.mul_le_mul r2 c2
  have hnc := w.nc_le
  have e2 : up h 3 2 1 1 2 = nI (σ 0 2) := by rw [up_ne h (by decide)]; exact cs.1 2 (by decide)
  have e3 : up h 3 2 1 1 3 = nI (σ 0 3) := by rw [up_ne h (by decide)]; exact cs.1 3 (by decide)
  have ix : ∀ (W : Int32) (x : Nat), W = nI x → nI (σ 0 2) * 6 + W = nI (6 * σ 0 2 + x) := fun W x hW => n_ix (Mm := 6) rfl hW
  have key : (fun o : RO => ∃ u, o = some (nI (σ 0 2), u) ∧ CS (pS σ r c mg) u ∧ FrX h u ∧ u 3 2 = 1) (fT_addPiece (up h 3 2 1) (nI r) (nI c) (nI mg)) := by
    unfold fT_addPiece
    simp only [bnd, pt]
    rw [e2, wr_at (6 * σ 0 2 + 0) 30 rfl (ix 0 0 rfl) (by omega), wr_at (6 * σ 0 2 + 1) 30 rfl (ix 1 1 rfl) (by omega), wr_at (6 * σ 0 2 + 2) 30 rfl (ix 2 2 rfl) (by omega), wr_at (6 * σ 0 2 + 3) 30 rfl (ix 3 3 rfl) (by omega), wr_at (6 * σ 0 2 + 4) 30 rfl (ix 4 4 rfl) (by omega), wr_at (6 * σ 0 2 + 5) 30 rfl (ix 5 5 rfl) (by omega)]
    have q3 : ∀ v : Hp, v 1 = up h 3 2 1 1 → v 1 3 = nI (σ 0 3) := fun v hv => by rw [hv, e3]
    rw [q3 (up (up (up (up h 3 2 1) 6 (6 * σ 0 2 + 0) (nI r)) 6 (6 * σ 0 2 + 1) (nI c)) 6 (6 * σ 0 2 + 2) (nI mg)) (by rw [up_ne _ (by decide), up_ne _ (by decide), up_ne _ (by decide)])]
    rw [q3 (up (up (up (up (up h 3 2 1) 6 (6 * σ 0 2 + 0) (nI r)) 6 (6 * σ 0 2 + 1) (nI c)) 6 (6 * σ 0 2 + 2) (nI mg)) 6 (6 * σ 0 2 + 3) (nI (σ 0 3))) (by rw [up_ne _ (by decide), up_ne _ (by decide), up_ne _ (by decide), up_ne _ (by decide)])]
    rw [n_mul, nI_add]
    refine x_rows (P := fun o : RO => ∃ u, o = some (nI (σ 0 2), u) ∧ CS (pS σ r c mg) u ∧ FrX h u ∧ u 3 2 = 1) (mg := mg) (h := h) w h5 c1 c2 r2 ⟨?_, ?_, ?_, ?_, ?_, ?_⟩ (fun u hu => ?_)
    · intro i hi
      iterate 6 rw [up_ne _ (show 1 ≠ 6 by decide)]
      rw [up_ne h (by decide), cs.1 i hi, pK_0]
      split
      · rename_i q; rw [q, Nat.add_zero]
      · rfl
    · intro p x hp hx
      have esz : sz (pS σ r c mg) (σ 0 2) = r * c := pS_szn
      by_cases he : p = σ 0 2
      · subst he
        simp only [up_k]
        rcases (show x = 0 ∨ x = 1 ∨ x = 2 ∨ x = 3 ∨ x = 4 ∨ x = 5 by omega) with rfl | rfl | rfl | rfl | rfl | rfl
        · show _ = nI (pS σ r c mg 1 (σ 0 2)); rw [pS_k (by decide), pK_1]; simp [upd]
        · show _ = nI (pS σ r c mg 2 (σ 0 2)); rw [pS_k (by decide), pK_2]; simp [upd]
        · show _ = nI (pS σ r c mg 3 (σ 0 2)); rw [pS_k (by decide), pK_3]; simp [upd]
        · show _ = nI (pS σ r c mg 4 (σ 0 2)); rw [pS_k (by decide), pK_4]; simp [upd]
        · show _ = nI (pS σ r c mg 4 (σ 0 2) + sz (pS σ r c mg) (σ 0 2)); rw [pS_k (by decide), pK_4, esz]; simp [upd]
        · show _ = nI (pS σ r c mg 5 (σ 0 2)); rw [pS_k (by decide), pK_5]; simp [upd]; rfl
      · iterate 6 rw [up_k, upd_ne (by omega)]
        rw [up_ne h (by decide), cs.2.1 p x (by omega) hx]
        congr 1
        unfold pcF
        rw [pS_sz he, pS_k (by decide), pS_k (by decide), pS_k (by decide), pS_k (by decide), pS_k (by decide), pK_p (by decide) (by decide) he, pK_p (by decide) (by decide) he, pK_p (by decide) (by decide) he, pK_p (by decide) (by decide) he, pK_p (by decide) (by decide) he]
    · intro q x hq hx
      iterate 6 rw [up_ne _ (show 7 ≠ 6 by decide)]
      rw [up_ne h (by decide), cp_old w (by omega) hx]
      exact cs.2.2.1 q x (by omega) hx
    · intro m hm
      iterate 6 rw [up_ne _ (show 8 ≠ 6 by decide)]
      rw [up_ne h (by decide)]
      exact cs.2.2.2 m hm
    · exact fx_trans (fx_trans (fx_trans (fx_trans (fx_trans (fx_trans fx_stale (fx_put (by omega))) (fx_put (by omega))) (fx_put (by omega))) (fx_put (by omega))) (fx_put (by omega))) (fx_put (by omega))
    · iterate 6 rw [up_ne _ (show 3 ≠ 6 by decide)]
      exact stale_1
    · obtain ⟨u1, u2, u3, u4, u5, u6⟩ := hu
      have en : u 1 2 = nI (σ 0 2) := u1 2 (by decide)
      refine ⟨up u 1 2 (nI (σ 0 2 + 1)), by rw [en, n_s1]; rfl, ⟨fun i hi => ?_, fun p x hp hx => ?_, fun q x hq hx => ?_, fun m hm => ?_⟩, fx_trans u5 (fx_put (by omega)), by rw [up_ne _ (by decide)]; exact u6⟩
      · rw [up_k]
        by_cases h2 : i = 2
        · subst h2; rw [upd_same, pS_02]
        · rw [upd_ne h2, u1 i hi]
          unfold pS
          rw [us_j _ h2]
      · rw [pS_02] at hp
        rw [up_ne _ (by decide)]
        exact u2 p x hp hx
      · rw [pS_03] at hq
        rw [up_ne _ (by decide)]
        exact u3 q x hq hx
      · rw [up_ne _ (by decide), brM_pS]
        exact u4 m hm
  exact key
end Ops8
