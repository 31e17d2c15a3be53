/-! THE CALLS keep, back -/
def cph (h : Hp) (a s b t n : Nat) : Hp := fun z => if z = b then (fun j => if t ≤ j ∧ j < t + n then h a (s + (j - t)) else h b j) else h z
theorem cph_at (h : Hp) (a s b t n j : Nat) : cph h a s b t n b j = if t ≤ j ∧ j < t + n then h a (s + (j - t)) else h b j := by unfold cph; rw [if_pos rfl]
theorem cph_ne (h : Hp) {z b : Nat} (hz : z ≠ b) (a s t n : Nat) : cph h a s b t n z = h z := by unfold cph; rw [if_neg hz]
theorem cph_in (h : Hp) {a s b t n j : Nat} (h1 : t ≤ j) (h2 : j < t + n) : cph h a s b t n b j = h a (s + (j - t)) := by rw [cph_at, if_pos ⟨h1, h2⟩]
theorem cph_out (h : Hp) {a s b t n j : Nat} (h1 : j < t ∨ t + n ≤ j) : cph h a s b t n b j = h b j := by rw [cph_at, if_neg (by omega)]
theorem cph_0 (h : Hp) (a s b t : Nat) : cph h a s b t 0 = h := by
  funext z j
  by_cases hz : z = b
  · subst hz; rw [cph_at, if_neg (by omega)]
  · rw [cph_ne h hz]
theorem cph_s (h : Hp) {a b : Nat} (hab : a ≠ b) (s t i : Nat) : up (cph h a s b t i) b (t + i) (h a (s + i)) = cph h a s b t (i + 1) := by
  funext z j
  by_cases hz : z = b
  · subst hz
    rw [up_k, cph_at]
    by_cases hj : j = t + i
    · subst hj; rw [upd_same, if_pos (by omega), Nat.add_sub_cancel_left]
    · rw [upd_ne hj, cph_at]
      by_cases h2 : t ≤ j ∧ j < t + i
      · rw [if_pos h2, if_pos (by omega)]
      · rw [if_neg h2, if_neg (by omega)]
  · rw [up_ne _ hz, cph_ne h hz, cph_ne h hz]
theorem copy_eq {h : Hp} {a b s t n la lb : Nat} {S T N : Int32} (hS : S = nI s) (hT : T = nI t) (hN : N = nI n) (ha : lay[a]? = some (.inl (false, la))) (hb : lay[b]? = some (.inl (false, lb))) (hab : a ≠ b) (h1 : s + n ≤ la) (h2 : t + n ≤ lb) : fM_copy h a S b T N = some (0, cph h a s b t n) := by
  have l1 := alen_of ha
  have l2 := alen_of hb
  subst hS; subst hT; subst hN
  have q := loopS (fun m (x : Int32 × Hp) => fM_copy_L3 (nI s) (nI t) (nI n) a b m x.1 x.2) (fun i => (nI i, cph h a s b t i)) (some (0, cph h a s b t n)) n (by omega) (by
    intro i m hi
    simp only [fM_copy_L3]
    rw [if_neg (fun q => by have := (n_le rfl rfl (by omega) (by omega)).mp q; omega), rd_at (s + i) la ha (nI_add s i) (by omega), cph_ne h hab, wr_at (t + i) lb hb (nI_add t i) (by omega), cph_s h hab, n_s1]) (by
    intro m
    simp only [fM_copy_L3]
    rw [if_pos (Int32.le_refl _)]
    rfl) 0 (by omega)
  rw [cph_0] at q
  exact q
theorem aln_at {k n : Nat} {z : Bool} {f : Int32 → RO} (hk : lay[k]? = some (.inl (z, n))) : aln k f = f (nI n) := by unfold aln; rw [hk]; rfl
theorem cpy_at {h : Hp} {a b n : Nat} {f : Hp → RO} (ha : lay[a]? = some (.inl (false, n))) (hb : lay[b]? = some (.inl (false, n))) (hn : n < 1000) : cpy h a b 0 0 (nI n) f = f (acp h a b n) := by
  unfold cpy
  rw [ha, hb]
  exact if_pos ⟨rfl, rfl, rfl, hn, rfl, rfl, rfl⟩
theorem acp_at (h : Hp) (a b : Nat) {n j : Nat} (hj : j < n) : acp h a b n b j = h a j := by
  unfold acp va_cpy
  rw [if_pos rfl, if_pos ⟨Nat.zero_le j, by omega⟩, Nat.zero_add, Nat.sub_zero]
theorem acp_ne (h : Hp) (a : Nat) {b z : Nat} (n : Nat) (hz : z ≠ b) : acp h a b n z = h z := by unfold acp; rw [if_neg hz]
section Keep
variable {X : Sg → Hp → Prop} {σ : Sg} {h : Hp}
/-- a State copied: numbers and rows -/
theorem cst_copy {s a b c s' a' b' c' : Nat} {u : Hp} (w : WF σ) (cs : CSt s a b c σ h) (h1 : ∀ i, i < 5 → u s' i = h s i) (h2 : ∀ j, j < 30 → u a' j = h a j) (h3 : ∀ j, j < 300 → u b' j = h b j) (h4 : ∀ j, j < 8 → u c' j = h c j) : CSt s' a' b' c' σ u := by
  have hnp := w.1.2.2.2.2.2.1
  have hnc := w.nc_le
  exact ⟨fun i hi => by rw [h1 i hi]; exact cs.1 i hi, fun p x hp hx => by rw [h2 _ (by omega)]; exact cs.2.1 p x hp hx, fun q x hq hx => by rw [h3 _ (by omega)]; exact cs.2.2.1 q x hq hx, fun m hm => by rw [h4 m hm]; exact cs.2.2.2 m hm⟩
theorem cf21 (h : Hp) : ∃ u, fT_copyFrom_2_1 h = some (0, u) ∧ (∀ i, i < 5 → u 2 i = h 1 i) ∧ (∀ j, j < 30 → u 9 j = h 6 j) ∧ (∀ j, j < 300 → u 10 j = h 7 j) ∧ (∀ j, j < 8 → u 11 j = h 8 j) ∧ ∀ z, z ≠ 2 → z ≠ 9 → z ≠ 10 → z ≠ 11 → u z = h z := by
  unfold fT_copyFrom_2_1
  simp only [pt]
  rw [aln_at (k := 9) (n := 30) rfl, cpy_at (n := 30) rfl rfl (by decide), aln_at (k := 10) (n := 300) rfl, cpy_at (n := 300) rfl rfl (by decide), aln_at (k := 11) (n := 8) rfl, cpy_at (n := 8) rfl rfl (by decide)]
  refine ⟨_, rfl, fun i hi => ?_, fun j hj => ?_, fun j hj => ?_, fun j hj => ?_, fun z z1 z2 z3 z4 => ?_⟩
  · rw [acp_ne _ _ _ (by decide), acp_ne _ _ _ (by decide), acp_ne _ _ _ (by decide)]
    simp only [up_k]
    rcases (show i = 0 ∨ i = 1 ∨ i = 2 ∨ i = 3 ∨ i = 4 by omega) with rfl | rfl | rfl | rfl | rfl <;> simp [upd, up]
  · rw [acp_ne _ _ _ (by decide), acp_ne _ _ _ (by decide), acp_at _ _ _ hj]
    simp [up]
  · rw [acp_ne _ _ _ (by decide), acp_at _ _ _ hj, acp_ne _ _ _ (by decide)]
    simp [up]
  · rw [acp_at _ _ _ hj, acp_ne _ _ _ (by decide), acp_ne _ _ _ (by decide)]
    simp [up]
  · rw [acp_ne _ _ _ z4, acp_ne _ _ _ z3, acp_ne _ _ _ z2]
    simp [up, z1]
theorem cf12 (h : Hp) : ∃ u, fT_copyFrom_1_2 h = some (0, u) ∧ (∀ i, i < 5 → u 1 i = h 2 i) ∧ (∀ j, j < 30 → u 6 j = h 9 j) ∧ (∀ j, j < 300 → u 7 j = h 10 j) ∧ (∀ j, j < 8 → u 8 j = h 11 j) ∧ ∀ z, z ≠ 1 → z ≠ 6 → z ≠ 7 → z ≠ 8 → u z = h z := by
  unfold fT_copyFrom_1_2
  simp only [pt]
  rw [aln_at (k := 6) (n := 30) rfl, cpy_at (n := 30) rfl rfl (by decide), aln_at (k := 7) (n := 300) rfl, cpy_at (n := 300) rfl rfl (by decide), aln_at (k := 8) (n := 8) rfl, cpy_at (n := 8) rfl rfl (by decide)]
  refine ⟨_, rfl, fun i hi => ?_, fun j hj => ?_, fun j hj => ?_, fun j hj => ?_, fun z z1 z2 z3 z4 => ?_⟩
  · rw [acp_ne _ _ _ (by decide), acp_ne _ _ _ (by decide), acp_ne _ _ _ (by decide)]
    simp only [up_k]
    rcases (show i = 0 ∨ i = 1 ∨ i = 2 ∨ i = 3 ∨ i = 4 by omega) with rfl | rfl | rfl | rfl | rfl <;> simp [upd, up]
  · rw [acp_ne _ _ _ (by decide), acp_ne _ _ _ (by decide), acp_at _ _ _ hj]
    simp [up]
  · rw [acp_ne _ _ _ (by decide), acp_at _ _ _ hj, acp_ne _ _ _ (by decide)]
    simp [up]
  · rw [acp_at _ _ _ hj, acp_ne _ _ _ (by decide), acp_ne _ _ _ (by decide)]
    simp [up]
  · rw [acp_ne _ _ _ z4, acp_ne _ _ _ z3, acp_ne _ _ _ z2]
    simp [up, z1]
theorem keepOut {K : Hp → RO} (ho : ∀ p, p < 5 → h 33 p = 0 ∨ h 33 p = 1) : fM_keep_L115 K FU 0 h = K (cph h 33 0 44 20 5) := by
  have q := loopS (fun m (x : Int32 × Hp) => fM_keep_L115 K m x.1 x.2) (fun i => (nI i, cph h 33 0 44 20 i)) (K (cph h 33 0 44 20 5)) 5 (by decide) (by
    intro i m hi
    simp only [fM_keep_L115, jn]
    rw [if_neg (fun q => by have := (n_le (X := 5) (a := 5) rfl rfl (by omega) (by omega)).mp q; omega), rdz_at i 5 rfl rfl hi, cph_ne h (by decide), wr_at (20 + i) 25 rfl (by rw [show (20 : Int32) = nI 20 from rfl, nI_add]) (by omega), wr_at (20 + i) 25 rfl (by rw [show (20 : Int32) = nI 20 from rfl, nI_add]) (by omega), n_s1, ← cph_s h (show 33 ≠ 44 by decide) 0 20 i, Nat.zero_add]
    rcases ho i hi with e | e
    · rw [if_pos e, e]
    · rw [if_neg (by rw [e]; decide), e]) (by
    intro m
    simp only [fM_keep_L115]
    rw [if_pos (by decide)]) 0 (by decide)
  rw [cph_0] at q
  exact q
theorem backOut {K : Hp → RO} (ho : ∀ p, p < 5 → h 44 (20 + p) = 0 ∨ h 44 (20 + p) = 1) : fM_back_L120 K FU 0 h = K (cph h 44 20 33 0 5) := by
  have q := loopS (fun m (x : Int32 × Hp) => fM_back_L120 K m x.1 x.2) (fun i => (nI i, cph h 44 20 33 0 i)) (K (cph h 44 20 33 0 5)) 5 (by decide) (by
    intro i m hi
    simp only [fM_back_L120, jn]
    rw [if_neg (fun q => by have := (n_le (X := 5) (a := 5) rfl rfl (by omega) (by omega)).mp q; omega), rd_at (20 + i) 25 rfl (by rw [show (20 : Int32) = nI 20 from rfl, nI_add]) (by omega), cph_ne h (by decide), wrz_at i 5 rfl rfl hi (Or.inr rfl), wrz_at i 5 rfl rfl hi (Or.inl rfl), n_s1, ← cph_s h (show 44 ≠ 33 by decide) 20 0 i, Nat.zero_add]
    rcases ho i hi with e | e
    · rw [if_neg (by rw [e]; decide), e]
    · rw [if_pos e, e]) (by
    intro m
    simp only [fM_back_L120]
    rw [if_pos (by decide)]) 0 (by decide)
  rw [cph_0] at q
  exact q
theorem m_keep (ms : MS σ h) (ho : ∀ p, p < 5 → σ 5 p ≤ 1) : ∃ u, fM_keep h = some (1, u) ∧ MK σ u ∧ u 28 19 = 1 ∧ MS σ u ∧ ∀ k, k < 28 → u k = h k := by
  have ho2 : ∀ p, p < 5 → nI (σ 5 p) = 0 ∨ nI (σ 5 p) = 1 := fun p hp => by
    have := ho p hp
    rcases (show σ 5 p = 0 ∨ σ 5 p = 1 by omega) with e | e
    · rw [e]; exact Or.inl rfl
    · rw [e]; exact Or.inr rfl
  unfold fM_keep ptz
  rw [if_pos (Or.inr rfl)]
  obtain ⟨h1, e1⟩ : ∃ h1, h1 = up h 28 19 1 := ⟨_, rfl⟩
  have m28 : ∀ j, j ≠ 19 → h1 28 j = h 28 j := fun j hj => by rw [e1, up_k, upd_ne hj]
  have mz : ∀ z, z ≠ 28 → h1 z = h z := fun z hz => by rw [e1, up_ne h hz]
  dsimp only
  rw [← e1, wr_at (i := 0) 0 5 rfl rfl (by decide), wr_at (i := 1) 1 5 rfl rfl (by decide), wr_at (i := 2) 2 5 rfl rfl (by decide), wr_at (i := 3) 3 5 rfl rfl (by decide), wr_at (i := 4) 4 5 rfl rfl (by decide)]
  obtain ⟨h2, e2⟩ : ∃ h2, h2 = up (up (up (up (up h1 43 0 (h1 28 0)) 43 1 (h1 28 1)) 43 2 (h1 28 2)) 43 3 (h1 28 8)) 43 4 (h1 28 16) := ⟨_, rfl⟩
  have e2' : up (up (up (up (up h1 43 0 (h1 28 0)) 43 1 (up h1 43 0 (h1 28 0) 28 1)) 43 2 (up (up h1 43 0 (h1 28 0)) 43 1 (up h1 43 0 (h1 28 0) 28 1) 28 2)) 43 3 (up (up (up h1 43 0 (h1 28 0)) 43 1 (up h1 43 0 (h1 28 0) 28 1)) 43 2 (up (up h1 43 0 (h1 28 0)) 43 1 (up h1 43 0 (h1 28 0) 28 1) 28 2) 28 8)) 43 4 (up (up (up (up h1 43 0 (h1 28 0)) 43 1 (up h1 43 0 (h1 28 0) 28 1)) 43 2 (up (up h1 43 0 (h1 28 0)) 43 1 (up h1 43 0 (h1 28 0) 28 1) 28 2)) 43 3 (up (up (up h1 43 0 (h1 28 0)) 43 1 (up h1 43 0 (h1 28 0) 28 1)) 43 2 (up (up h1 43 0 (h1 28 0)) 43 1 (up h1 43 0 (h1 28 0) 28 1) 28 2) 28 8) 28 16) = h2 := by
    rw [e2]
    simp only [up_ne _ (show 28 ≠ 43 by decide)]
  rw [e2']
  have n43 : h2 43 0 = h 28 0 ∧ h2 43 1 = h 28 1 ∧ h2 43 2 = h 28 2 ∧ h2 43 3 = h 28 8 ∧ h2 43 4 = h 28 16 := by
    rw [e2]
    simp only [up_k]
    rw [m28 0 (by decide), m28 1 (by decide), m28 2 (by decide), m28 8 (by decide), m28 16 (by decide)]
    simp [upd]
  have n28 : h2 28 = h1 28 := by rw [e2]; simp only [up_ne _ (show 28 ≠ 43 by decide)]
  have nz : ∀ z, z ≠ 28 → z ≠ 43 → h2 z = h z := fun z z1 z2 => by rw [e2]; simp only [up_ne _ z2]; exact mz z z1
  rw [copy_eq (S := 0) (T := 0) (N := 5) (s := 0) (t := 0) (n := 5) rfl rfl rfl (la := 5) (lb := 25) rfl rfl (by decide) (by decide) (by decide), cal_some, copy_eq (S := 0) (T := 5) (N := 5) (s := 0) (t := 5) (n := 5) rfl rfl rfl (la := 5) (lb := 25) rfl rfl (by decide) (by decide) (by decide), cal_some, copy_eq (S := 0) (T := 10) (N := 5) (s := 0) (t := 10) (n := 5) rfl rfl rfl (la := 5) (lb := 25) rfl rfl (by decide) (by decide) (by decide), cal_some, copy_eq (S := 0) (T := 15) (N := 5) (s := 0) (t := 15) (n := 5) rfl rfl rfl (la := 5) (lb := 25) rfl rfl (by decide) (by decide) (by decide), cal_some]
  rw [keepOut (fun p hp => by rw [cph_ne _ (by decide), cph_ne _ (by decide), cph_ne _ (by decide), cph_ne _ (by decide), nz 33 (by decide) (by decide), ms.a5 hp]; exact ho2 p hp)]
  rw [copy_eq (S := 0) (T := 0) (N := 30) (s := 0) (t := 0) (n := 30) rfl rfl rfl (la := 30) (lb := 180) rfl rfl (by decide) (by decide) (by decide), cal_some, copy_eq (S := 0) (T := 30) (N := 30) (s := 0) (t := 30) (n := 30) rfl rfl rfl (la := 30) (lb := 180) rfl rfl (by decide) (by decide) (by decide), cal_some, copy_eq (S := 0) (T := 60) (N := 30) (s := 0) (t := 60) (n := 30) rfl rfl rfl (la := 30) (lb := 180) rfl rfl (by decide) (by decide) (by decide), cal_some, copy_eq (S := 0) (T := 90) (N := 30) (s := 0) (t := 90) (n := 30) rfl rfl rfl (la := 30) (lb := 180) rfl rfl (by decide) (by decide) (by decide), cal_some, copy_eq (S := 0) (T := 120) (N := 30) (s := 0) (t := 120) (n := 30) rfl rfl rfl (la := 30) (lb := 180) rfl rfl (by decide) (by decide) (by decide), cal_some, copy_eq (S := 0) (T := 150) (N := 30) (s := 0) (t := 150) (n := 30) rfl rfl rfl (la := 30) (lb := 180) rfl rfl (by decide) (by decide) (by decide), cal_some, copy_eq (S := 0) (T := 0) (N := 240) (s := 0) (t := 0) (n := 240) rfl rfl rfl (la := 240) (lb := 240) rfl rfl (by decide) (by decide) (by decide), cal_some, copy_eq (S := 0) (T := 0) (N := 6) (s := 0) (t := 0) (n := 6) rfl rfl rfl (la := 6) (lb := 12) rfl rfl (by decide) (by decide) (by decide), cal_some, copy_eq (S := 0) (T := 6) (N := 6) (s := 0) (t := 6) (n := 6) rfl rfl rfl (la := 6) (lb := 12) rfl rfl (by decide) (by decide) (by decide), cal_some]
  refine ⟨_, rfl, ?_, ?_, ?_, ?_⟩
  · refine ⟨fun i hi => ?_, fun k j k1 k2 hj => ?_, fun j hj => ⟨?_, ?_, ?_, ?_, ?_, ?_⟩, fun j hj => ?_, fun j hj => ⟨?_, ?_⟩⟩
    · iterate 14 rw [cph_ne _ (by decide)]
      rcases (show i = 0 ∨ i = 1 ∨ i = 2 ∨ i = 3 ∨ i = 4 by omega) with rfl | rfl | rfl | rfl | rfl
      · rw [n43.1]; exact ms.R
      · rw [n43.2.1]; exact ms.C
      · rw [n43.2.2.1]; exact ms.np
      · rw [n43.2.2.2.1]; exact ms.nc
      · rw [n43.2.2.2.2]; exact ms.nb
    · iterate 9 rw [cph_ne _ (show 44 ≠ _ by decide)]
      rcases (show k = 1 ∨ k = 2 ∨ k = 3 ∨ k = 4 ∨ k = 5 by omega) with rfl | rfl | rfl | rfl | rfl
      · rw [cph_out _ (by omega), cph_out _ (by omega), cph_out _ (by omega), cph_out _ (by omega), cph_in _ (by omega) (by omega), nz 29 (by decide) (by decide), ms.a1 (by omega)]
        congr 2; omega
      · rw [cph_out _ (by omega), cph_out _ (by omega), cph_out _ (by omega), cph_in _ (by omega) (by omega), cph_ne _ (by decide), nz 30 (by decide) (by decide), ms.a2 (by omega)]
        congr 2; omega
      · rw [cph_out _ (by omega), cph_out _ (by omega), cph_in _ (by omega) (by omega), cph_ne _ (by decide), cph_ne _ (by decide), nz 31 (by decide) (by decide), ms.a3 (by omega)]
        congr 2; omega
      · rw [cph_out _ (by omega), cph_in _ (by omega) (by omega), cph_ne _ (by decide), cph_ne _ (by decide), cph_ne _ (by decide), nz 32 (by decide) (by decide), ms.a4 (by omega)]
        congr 2; omega
      · rw [cph_in _ (by omega) (by omega), cph_ne _ (by decide), cph_ne _ (by decide), cph_ne _ (by decide), cph_ne _ (by decide), nz 33 (by decide) (by decide), ms.a5 (by omega)]
        congr 2; omega
    · iterate 3 rw [cph_ne _ (show 45 ≠ _ by decide)]
      rw [cph_out _ (by omega), cph_out _ (by omega), cph_out _ (by omega), cph_out _ (by omega), cph_out _ (by omega), cph_in _ (by omega) (by omega)]
      iterate 5 rw [cph_ne _ (by decide)]
      rw [nz 34 (by decide) (by decide), ms.a6 (by omega)]
      congr 2; omega
    · iterate 3 rw [cph_ne _ (show 45 ≠ _ by decide)]
      rw [cph_out _ (by omega), cph_out _ (by omega), cph_out _ (by omega), cph_out _ (by omega), cph_in _ (by omega) (by omega)]
      iterate 6 rw [cph_ne _ (by decide)]
      rw [nz 36 (by decide) (by decide), ms.a8 (by omega)]
      congr 3; omega
    · iterate 3 rw [cph_ne _ (show 45 ≠ _ by decide)]
      rw [cph_out _ (by omega), cph_out _ (by omega), cph_out _ (by omega), cph_in _ (by omega) (by omega)]
      iterate 7 rw [cph_ne _ (by decide)]
      rw [nz 37 (by decide) (by decide), ms.a9 (by omega)]
      congr 3; omega
    · iterate 3 rw [cph_ne _ (show 45 ≠ _ by decide)]
      rw [cph_out _ (by omega), cph_out _ (by omega), cph_in _ (by omega) (by omega)]
      iterate 8 rw [cph_ne _ (by decide)]
      rw [nz 38 (by decide) (by decide), ms.a10 (by omega)]
      rw [show 0 + (90 + j - 90) = j by omega]
    · iterate 3 rw [cph_ne _ (show 45 ≠ _ by decide)]
      rw [cph_out _ (by omega), cph_in _ (by omega) (by omega)]
      iterate 9 rw [cph_ne _ (by decide)]
      rw [nz 39 (by decide) (by decide), ms.a11 (by omega)]
      rw [show 0 + (120 + j - 120) = j by omega]
    · iterate 3 rw [cph_ne _ (show 45 ≠ _ by decide)]
      rw [cph_in _ (by omega) (by omega)]
      iterate 10 rw [cph_ne _ (by decide)]
      rw [nz 40 (by decide) (by decide), ms.a12 (by omega)]
      rw [show 0 + (150 + j - 150) = j by omega]
    · iterate 2 rw [cph_ne _ (show 46 ≠ _ by decide)]
      rw [cph_in _ (by omega) (by omega)]
      iterate 11 rw [cph_ne _ (by decide)]
      rw [nz 35 (by decide) (by decide), ms.a7 (by omega), show 0 + (j - 0) = j by omega]
    · rw [cph_out _ (by omega), cph_in _ (by omega) (by omega)]
      iterate 12 rw [cph_ne _ (by decide)]
      rw [nz 41 (by decide) (by decide), ms.a13 (by omega)]
      congr 2; omega
    · rw [cph_in _ (by omega) (by omega)]
      iterate 13 rw [cph_ne _ (by decide)]
      rw [nz 42 (by decide) (by decide), ms.a14 (by omega)]
      congr 2; omega
  · iterate 14 rw [cph_ne _ (by decide)]
    rw [n28, e1, up_k, upd_same]
  · refine ms.congr (fun j hj _ => ?_) (fun k k1 k2 => ?_)
    · iterate 14 rw [cph_ne _ (by decide)]
      rw [n28]
      exact m28 j (by omega)
    · iterate 14 rw [cph_ne _ (by omega)]
      exact nz k (by omega) (by omega)
  · intro k hk
    iterate 14 rw [cph_ne _ (by omega)]
    exact nz k (by omega) (by omega)
theorem m_back {u : Hp} (mk : MK σ u) (ho : ∀ p, p < 5 → σ 5 p ≤ 1) (hk : u 28 19 = 1) : ∃ v, fM_back u = some (1, v) ∧ MS σ v ∧ FrM u v := by
  have ho2 : ∀ p, p < 5 → nI (σ 5 p) = 0 ∨ nI (σ 5 p) = 1 := fun p hp => by
    have := ho p hp
    rcases (show σ 5 p = 0 ∨ σ 5 p = 1 by omega) with e | e
    · rw [e]; exact Or.inl rfl
    · rw [e]; exact Or.inr rfl
  obtain ⟨k1, k2, k3, k4, k5⟩ := mk
  have m20 : ∀ p, p < 5 → u 44 (20 + p) = nI (σ 5 p) := fun p hp => k2 5 p (by decide) (by decide) hp
  unfold fM_back
  simp only [pt]
  rw [hk, if_neg (by decide), rd_at (i := 0) 0 5 rfl rfl (by decide), rd_at (i := 1) 1 5 rfl rfl (by decide), rd_at (i := 2) 2 5 rfl rfl (by decide), rd_at (i := 3) 3 5 rfl rfl (by decide), rd_at (i := 4) 4 5 rfl rfl (by decide)]
  simp only [up_ne _ (show 43 ≠ 28 by decide)]
  rw [k1 0 (by decide), k1 1 (by decide), k1 2 (by decide), k1 3 (by decide), k1 4 (by decide)]
  obtain ⟨h2, e2⟩ : ∃ h2, h2 = up (up (up (up (up u 28 0 (nI (σ 0 0))) 28 1 (nI (σ 0 1))) 28 2 (nI (σ 0 2))) 28 8 (nI (σ 0 3))) 28 16 (nI (σ 0 4)) := ⟨_, rfl⟩
  rw [← e2]
  have nz : ∀ z, z ≠ 28 → h2 z = u z := fun z hz => by rw [e2]; simp only [up_ne _ hz]
  have n28 : h2 28 0 = nI (σ 0 0) ∧ h2 28 1 = nI (σ 0 1) ∧ h2 28 2 = nI (σ 0 2) ∧ h2 28 8 = nI (σ 0 3) ∧ h2 28 16 = nI (σ 0 4) ∧ h2 28 19 = u 28 19 := by
    rw [e2]
    simp only [up_k]
    simp [upd]
  rw [copy_eq (S := 0) (T := 0) (N := 5) (s := 0) (t := 0) (n := 5) rfl rfl rfl (la := 25) (lb := 5) rfl rfl (by decide) (by decide) (by decide), cal_some, copy_eq (S := 5) (T := 0) (N := 5) (s := 5) (t := 0) (n := 5) rfl rfl rfl (la := 25) (lb := 5) rfl rfl (by decide) (by decide) (by decide), cal_some, copy_eq (S := 10) (T := 0) (N := 5) (s := 10) (t := 0) (n := 5) rfl rfl rfl (la := 25) (lb := 5) rfl rfl (by decide) (by decide) (by decide), cal_some, copy_eq (S := 15) (T := 0) (N := 5) (s := 15) (t := 0) (n := 5) rfl rfl rfl (la := 25) (lb := 5) rfl rfl (by decide) (by decide) (by decide), cal_some]
  rw [backOut (fun p hp => by rw [cph_ne _ (by decide), cph_ne _ (by decide), cph_ne _ (by decide), cph_ne _ (by decide), nz 44 (by decide), m20 p hp]; exact ho2 p hp)]
  rw [copy_eq (S := 0) (T := 0) (N := 30) (s := 0) (t := 0) (n := 30) rfl rfl rfl (la := 180) (lb := 30) rfl rfl (by decide) (by decide) (by decide), cal_some, copy_eq (S := 30) (T := 0) (N := 30) (s := 30) (t := 0) (n := 30) rfl rfl rfl (la := 180) (lb := 30) rfl rfl (by decide) (by decide) (by decide), cal_some, copy_eq (S := 60) (T := 0) (N := 30) (s := 60) (t := 0) (n := 30) rfl rfl rfl (la := 180) (lb := 30) rfl rfl (by decide) (by decide) (by decide), cal_some, copy_eq (S := 90) (T := 0) (N := 30) (s := 90) (t := 0) (n := 30) rfl rfl rfl (la := 180) (lb := 30) rfl rfl (by decide) (by decide) (by decide), cal_some, copy_eq (S := 120) (T := 0) (N := 30) (s := 120) (t := 0) (n := 30) rfl rfl rfl (la := 180) (lb := 30) rfl rfl (by decide) (by decide) (by decide), cal_some, copy_eq (S := 150) (T := 0) (N := 30) (s := 150) (t := 0) (n := 30) rfl rfl rfl (la := 180) (lb := 30) rfl rfl (by decide) (by decide) (by decide), cal_some, copy_eq (S := 0) (T := 0) (N := 240) (s := 0) (t := 0) (n := 240) rfl rfl rfl (la := 240) (lb := 240) rfl rfl (by decide) (by decide) (by decide), cal_some, copy_eq (S := 0) (T := 0) (N := 6) (s := 0) (t := 0) (n := 6) rfl rfl rfl (la := 12) (lb := 6) rfl rfl (by decide) (by decide) (by decide), cal_some, copy_eq (S := 6) (T := 0) (N := 6) (s := 6) (t := 0) (n := 6) rfl rfl rfl (la := 12) (lb := 6) rfl rfl (by decide) (by decide) (by decide), cal_some]
  refine ⟨_, rfl, ⟨fun i hi => ?_, fun k q1 q2 j hj => ?_⟩, ?_, ?_, ?_⟩
  · iterate 14 rw [cph_ne _ (by decide)]
    rcases (show i = 0 ∨ i = 1 ∨ i = 2 ∨ i = 3 ∨ i = 4 by omega) with rfl | rfl | rfl | rfl | rfl
    · exact n28.1
    · exact n28.2.1
    · exact n28.2.2.1
    · exact n28.2.2.2.1
    · exact n28.2.2.2.2.1
  · rcases (show k = 1 ∨ k = 2 ∨ k = 3 ∨ k = 4 ∨ k = 5 ∨ k = 6 ∨ k = 7 ∨ k = 8 ∨ k = 9 ∨ k = 10 ∨ k = 11 ∨ k = 12 ∨ k = 13 ∨ k = 14 by omega) with rfl | rfl | rfl | rfl | rfl | rfl | rfl | rfl | rfl | rfl | rfl | rfl | rfl | rfl
    · iterate 13 rw [cph_ne _ (by decide)]
      have hj' : j < 5 := hj
      rw [cph_in _ (by omega) (by omega), nz 44 (by decide), show 0 + (j - 0) = 5 * (1 - 1) + j by omega]
      exact k2 1 j (by decide) (by decide) hj'
    · iterate 12 rw [cph_ne _ (by decide)]
      have hj' : j < 5 := hj
      rw [cph_in _ (by omega) (by omega), cph_ne _ (by decide), nz 44 (by decide), show 5 + (j - 0) = 5 * (2 - 1) + j by omega]
      exact k2 2 j (by decide) (by decide) hj'
    · iterate 11 rw [cph_ne _ (by decide)]
      have hj' : j < 5 := hj
      rw [cph_in _ (by omega) (by omega), cph_ne _ (by decide), cph_ne _ (by decide), nz 44 (by decide), show 10 + (j - 0) = 5 * (3 - 1) + j by omega]
      exact k2 3 j (by decide) (by decide) hj'
    · iterate 10 rw [cph_ne _ (by decide)]
      have hj' : j < 5 := hj
      rw [cph_in _ (by omega) (by omega), cph_ne _ (by decide), cph_ne _ (by decide), cph_ne _ (by decide), nz 44 (by decide), show 15 + (j - 0) = 5 * (4 - 1) + j by omega]
      exact k2 4 j (by decide) (by decide) hj'
    · iterate 9 rw [cph_ne _ (by decide)]
      have hj' : j < 5 := hj
      rw [cph_in _ (by omega) (by omega), cph_ne _ (by decide), cph_ne _ (by decide), cph_ne _ (by decide), cph_ne _ (by decide), nz 44 (by decide), show 20 + (j - 0) = 5 * (5 - 1) + j by omega]
      exact k2 5 j (by decide) (by decide) hj'
    · iterate 8 rw [cph_ne _ (by decide)]
      have hj' : j < 30 := hj
      rw [cph_in _ (by omega) (by omega)]
      iterate 5 rw [cph_ne _ (by decide)]
      rw [nz 45 (by decide), show 0 + (j - 0) = j by omega]
      exact (k3 j hj').1
    · iterate 2 rw [cph_ne _ (by decide)]
      have hj' : j < 240 := hj
      rw [cph_in _ (by omega) (by omega)]
      iterate 11 rw [cph_ne _ (by decide)]
      rw [nz 46 (by decide), show 0 + (j - 0) = j by omega]
      exact k4 j hj'
    · iterate 7 rw [cph_ne _ (by decide)]
      have hj' : j < 30 := hj
      rw [cph_in _ (by omega) (by omega)]
      iterate 6 rw [cph_ne _ (by decide)]
      rw [nz 45 (by decide), show 30 + (j - 0) = 30 + j by omega]
      exact (k3 j hj').2.1
    · iterate 6 rw [cph_ne _ (by decide)]
      have hj' : j < 30 := hj
      rw [cph_in _ (by omega) (by omega)]
      iterate 7 rw [cph_ne _ (by decide)]
      rw [nz 45 (by decide), show 60 + (j - 0) = 60 + j by omega]
      exact (k3 j hj').2.2.1
    · iterate 5 rw [cph_ne _ (by decide)]
      have hj' : j < 30 := hj
      rw [cph_in _ (by omega) (by omega)]
      iterate 8 rw [cph_ne _ (by decide)]
      rw [nz 45 (by decide), show 90 + (j - 0) = 90 + j by omega]
      exact (k3 j hj').2.2.2.1
    · iterate 4 rw [cph_ne _ (by decide)]
      have hj' : j < 30 := hj
      rw [cph_in _ (by omega) (by omega)]
      iterate 9 rw [cph_ne _ (by decide)]
      rw [nz 45 (by decide), show 120 + (j - 0) = 120 + j by omega]
      exact (k3 j hj').2.2.2.2.1
    · iterate 3 rw [cph_ne _ (by decide)]
      have hj' : j < 30 := hj
      rw [cph_in _ (by omega) (by omega)]
      iterate 10 rw [cph_ne _ (by decide)]
      rw [nz 45 (by decide), show 150 + (j - 0) = 150 + j by omega]
      exact (k3 j hj').2.2.2.2.2
    · rw [cph_ne _ (by decide)]
      have hj' : j < 6 := hj
      rw [cph_in _ (by omega) (by omega)]
      iterate 12 rw [cph_ne _ (by decide)]
      rw [nz 47 (by decide), show 0 + (j - 0) = j by omega]
      exact (k5 j hj').1
    · have hj' : j < 6 := hj
      rw [cph_in _ (by omega) (by omega)]
      iterate 13 rw [cph_ne _ (by decide)]
      rw [nz 47 (by decide), show 6 + (j - 0) = 6 + j by omega]
      exact (k5 j hj').2
  · intro k hk
    iterate 14 rw [cph_ne _ (by omega)]
    exact nz k (by omega)
  · iterate 14 rw [cph_ne _ (by decide)]
    exact n28.2.2.2.2.2
  · intro k q1 q2
    iterate 14 rw [cph_ne _ (by omega)]
    exact nz k (by omega)
theorem ag_keep (hX : XOk X) : Agr (InvX X) (fun h => fX_keep h) (fun h => fM_keep h) := by
  rintro h ⟨σ, w, ms, cs, kp, ho, ch⟩
  dsimp only
  obtain ⟨u, eu, u1, u2, u3, u4, u5⟩ := cf21 h
  have ex : fX_keep h = some (1, up u 0 4 1) := by
    unfold fX_keep ptz
    rw [eu, cal_some, if_pos (Or.inr rfl)]
    rfl
  have fz : ∀ z, z ≠ 0 → z ≠ 2 → z ≠ 9 → z ≠ 10 → z ≠ 11 → up u 0 4 1 z = h z := fun z z0 z1 z2 z3 z4 => by rw [up_ne _ z0, u5 z z1 z2 z3 z4]
  have ms1 : MS σ (up u 0 4 1) := ms.congr (fun j _ _ => by rw [fz 28 (by decide) (by decide) (by decide) (by decide) (by decide)]) (fun k k1 k2 => fz k (by omega) (by omega) (by omega) (by omega) (by omega))
  obtain ⟨v, ev, mk, v19, mv, vf⟩ := m_keep ms1 ho
  have gz : ∀ z, z < 28 → z ≠ 0 → z ≠ 2 → z ≠ 9 → z ≠ 10 → z ≠ 11 → v z = h z := fun z zz z0 z1 z2 z3 z4 => by rw [vf z zz, fz z z0 z1 z2 z3 z4]
  refine ⟨1, up u 0 4 1, v, ex, ev, σ, w, mv, ?_, Or.inr ⟨by rw [vf 0 (by decide), up_k, upd_same], v19, σ, w, mk, ?_, ho⟩, ho, ?_⟩
  · exact cs.congr (fun i _ => by rw [gz 1 (by decide) (by decide) (by decide) (by decide) (by decide) (by decide)]) (gz 6 (by decide) (by decide) (by decide) (by decide) (by decide) (by decide)) (gz 7 (by decide) (by decide) (by decide) (by decide) (by decide) (by decide)) (gz 8 (by decide) (by decide) (by decide) (by decide) (by decide) (by decide))
  · exact cst_copy w cs (fun i hi => by rw [vf 2 (by decide), up_ne _ (by decide), u1 i hi]) (fun j hj => by rw [vf 9 (by decide), up_ne _ (by decide), u2 j hj]) (fun j hj => by rw [vf 10 (by decide), up_ne _ (by decide), u3 j hj]) (fun j hj => by rw [vf 11 (by decide), up_ne _ (by decide), u4 j hj])
  · have e3 : ∀ k, (k = 3 ∨ 12 ≤ k) → k < 27 → v k = h k := fun k k1 k2 => gz k (by omega) (by omega) (by omega) (by omega) (by omega) (by omega)
    rw [e3 3 (by decide) (by decide)]
    rcases ch with q | ⟨q, qx⟩
    · exact Or.inl q
    · exact Or.inr ⟨q, hX σ σ h v qx (fun _ _ => rfl) e3⟩
theorem ag_back : Agr (InvX X) (fun h => fX_back h) (fun h => fM_back h) := by
  rintro h ⟨σ, w, ms, cs, kp, ho, ch⟩
  have inv : InvX X h := ⟨σ, w, ms, cs, kp, ho, ch⟩
  dsimp only
  rcases id kp with ⟨k0, k1⟩ | ⟨k0, k1, σk, wk, mk, ck, hok⟩
  · exact ⟨-4, h, h, by unfold fX_back; rw [k0, if_pos rfl]; rfl, by unfold fM_back; rw [k1, if_pos rfl]; rfl, inv⟩
  · obtain ⟨u, eu, u1, u2, u3, u4, u5⟩ := cf12 h
    have ex : fX_back h = some (1, up u 3 2 1) := by
      unfold fX_back
      rw [k0, if_neg (by decide), eu, cal_some, forget_eq]
      rfl
    have fx0 : FrX h u := ⟨fun k hk => u5 k (by omega) (by omega) (by omega) (by omega), u5 0 (by decide) (by decide) (by decide) (by decide), u5 2 (by decide) (by decide) (by decide) (by decide), u5 4 (by decide) (by decide) (by decide) (by decide), u5 5 (by decide) (by decide) (by decide) (by decide), fun j _ => by rw [u5 3 (by decide) (by decide) (by decide) (by decide)]⟩
    have fx : FrX h (up u 3 2 1) := fx_trans fx0 fx_stale
    have cs1 : CS σk (up u 3 2 1) := cs_stale (cst_copy wk ck u1 u2 u3 u4)
    have mk1 : MK σk (up u 3 2 1) := by
      unfold MK at mk ⊢
      rw [fx.1 43 (by decide), fx.1 44 (by decide), fx.1 45 (by decide), fx.1 46 (by decide), fx.1 47 (by decide)]
      exact mk
    obtain ⟨v, ev, mv, fv⟩ := m_back mk1 hok (by rw [fx.1 28 (by decide)]; exact k1)
    exact ⟨1, up u 3 2 1, v, ex, ev, inv_told kp fx wk cs1 stale_1 fv mv hok⟩
end Keep
