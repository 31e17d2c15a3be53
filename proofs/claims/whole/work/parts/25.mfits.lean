/-! the reference's fits -/
section MFits
variable {σ : Sg} {h : Hp}
theorem mg0 : ∀ m, m < 16 → (((nI m &&& (1 : Int32)) = 0) ↔ m.testBit 0 = false) := by decide +kernel
theorem mg1 : ∀ m, m < 16 → (((nI m &&& (2 : Int32)) = 0) ↔ m.testBit 1 = false) := by decide +kernel
theorem mg2 : ∀ m, m < 16 → (((nI m &&& (4 : Int32)) = 0) ↔ m.testBit 2 = false) := by decide +kernel
theorem mg3 : ∀ m, m < 16 → (((nI m &&& (8 : Int32)) = 0) ↔ m.testBit 3 = false) := by decide +kernel
theorem mletters_eq {p r c : Nat} (w : WF σ) (ms : MS σ h) (hp : p < σ 0 2) (hr : r < 10) (hc : c < 10) (b : Bool) : fM_fits_L170 (nI p) (nI r) (nI c) FU (bI b) (nI (σ 4 p)) h = some (bI (b && ltP σ p r c), h) := by
  have hsz := w.sz_le hp
  have hend := w.end_le hp
  have hnc := w.nc_le
  have hnp := w.1.2.2.2.2.2.1
  refine loopS (fun m (x : Int32 × Int32 × Hp) => fM_fits_L170 (nI p) (nI r) (nI c) m x.1 x.2.1 x.2.2) (fun i => (bI (b && alP (fun i => ltC σ r c (σ 4 p + i)) i), nI (σ 4 p + i), h)) _ (sz σ p) (by omega) ?_ ?_ 0 (by omega) |> fun q => by
    dsimp only at q
    rw [show alP (fun i => ltC σ r c (σ 4 p + i)) 0 = true from rfl, Bool.and_true] at q
    exact q
  · intro i m hi
    have hq : σ 4 p + i < σ 0 3 := by omega
    have h6 := w.2.2.2.1 p (σ 4 p + i) hp (by omega) (by omega)
    obtain ⟨-, l1, l2, -⟩ := w.2.2.2.2.1 _ hq
    have r1 := w.rw_lt hq
    have r2 := w.cl_lt hq
    rw [h6] at r1 r2
    obtain ⟨a1, a2, a3, a4, a5, a6⟩ := w.2.1 p hp
    have d1 := let_lt0 (σ 8 (σ 4 p + i)) (by omega)
    have d2 := let_lt0 (σ 9 (σ 4 p + i)) (by omega)
    have d3 := let_dec (σ 8 (σ 4 p + i)) (by omega) (r + rw_ σ (σ 4 p + i)) (by omega)
    have d4 := let_dec (σ 9 (σ 4 p + i)) (by omega) (c + cl_ σ (σ 4 p + i)) (by omega)
    simp only [fM_fits_L170, jn]
    rw [rd_at p 5 rfl rfl (by omega), ms.a4 (by omega), sizeOf_eq ms (by omega), cal_some, nI_add, if_neg (fun q => by have := (n_le rfl rfl (by omega) (by omega)).mp q; omega), if_b0, n_s1]
    rw [show alP (fun i => ltC σ r c (σ 4 p + i)) (i + 1) = (alP (fun i => ltC σ r c (σ 4 p + i)) i && ltC σ r c (σ 4 p + i)) from rfl]
    rw [← Bool.and_assoc]
    cases b && alP (fun i => ltC σ r c (σ 4 p + i)) i with
    | false => rfl
    | true =>
      rw [cond_true, Bool.true_and, rd_at (σ 4 p + i) 30 rfl rfl (by omega), ms.a8 (by omega)]
      have e2 : (rd h 37 (nI (σ 4 p + i)) (fun r226 => if r226 < 0 then fM_fits_L170 (nI p) (nI r) (nI c) m 1 (nI (σ 4 p + i + 1)) h else rd h 37 (nI (σ 4 p + i)) (fun r236 => cal (fM_columnOf h (nI (σ 4 p + i))) (fun r242 h242 => if r236 = (nI c + r242) then fM_fits_L170 (nI p) (nI r) (nI c) m 1 (nI (σ 4 p + i + 1)) h242 else fM_fits_L170 (nI p) (nI r) (nI c) m 0 (nI (σ 4 p + i + 1)) h242)))) = fM_fits_L170 (nI p) (nI r) (nI c) m (bI (σ 9 (σ 4 p + i) == 0 || σ 9 (σ 4 p + i) == c + cl_ σ (σ 4 p + i) + 1)) (nI (σ 4 p + i + 1)) h := by
        rw [rd_at (σ 4 p + i) 30 rfl rfl (by omega), ms.a9 (by omega)]
        by_cases c2 : σ 9 (σ 4 p + i) = 0
        · rw [if_pos (d2.mpr c2), show (σ 9 (σ 4 p + i) == 0) = true by simp [c2]]
          rfl
        · rw [if_neg (fun q => c2 (d2.mp q)), rd_at (σ 4 p + i) 30 rfl rfl (by omega), ms.a9 (by omega), colOf_eq w ms hq, cal_some, nI_add, show (σ 9 (σ 4 p + i) == 0) = false by simp [c2]]
          by_cases c3 : σ 9 (σ 4 p + i) = c + cl_ σ (σ 4 p + i) + 1
          · rw [if_pos (d4.mpr c3), show (σ 9 (σ 4 p + i) == c + cl_ σ (σ 4 p + i) + 1) = true by simp [c3]]
            rfl
          · rw [if_neg (fun q => c3 (d4.mp q)), show (σ 9 (σ 4 p + i) == c + cl_ σ (σ 4 p + i) + 1) = false by simp [c3]]
            rfl
      unfold ltC
      by_cases c1 : σ 8 (σ 4 p + i) = 0
      · rw [if_pos (d1.mpr c1), show (σ 8 (σ 4 p + i) == 0) = true by simp [c1], Bool.true_or, Bool.true_and]
        exact e2
      · rw [if_neg (fun q => c1 (d1.mp q)), rd_at (σ 4 p + i) 30 rfl rfl (by omega), ms.a8 (by omega), rowOf_eq w ms hq, cal_some, nI_add, show (σ 8 (σ 4 p + i) == 0) = false by simp [c1], Bool.false_or]
        by_cases c0 : σ 8 (σ 4 p + i) = r + rw_ σ (σ 4 p + i) + 1
        · rw [if_pos (d3.mpr c0), show (σ 8 (σ 4 p + i) == r + rw_ σ (σ 4 p + i) + 1) = true by simp [c0], Bool.true_and]
          exact e2
        · rw [if_neg (fun q => c0 (d3.mp q)), show (σ 8 (σ 4 p + i) == r + rw_ σ (σ 4 p + i) + 1) = false by simp [c0]]
          rfl
  · intro m
    simp only [fM_fits_L170, jn]
    rw [rd_at p 5 rfl rfl (by omega), ms.a4 (by omega), sizeOf_eq ms (by omega), cal_some, nI_add, if_pos (Int32.le_refl _), retz_b]
    rfl
theorem fits_eq {p s : Nat} (w : WF σ) (ms : MS σ h) (hp : p < σ 0 2) (hs : s < σ 0 0 * σ 0 1) : fM_fits h (nI p) (nI s) = some (bI (ft σ p s), h) := by
  obtain ⟨a1, a2, a3, a4, a5, a6⟩ := w.2.1 p hp
  obtain ⟨b1, b2, b3, b4, b5, b6, -⟩ := w.1
  have hr : s / σ 0 1 < σ 0 0 := (Nat.div_lt_iff_lt_mul (by omega)).mpr hs
  have hc : s % σ 0 1 < σ 0 1 := Nat.mod_lt _ (by omega)
  unfold fM_fits dv rm_
  rw [ms.C, if_neg (nI_ne0 (by omega) (by omega)), pk_div (by omega) (by omega) (by omega)]
  dsimp only
  rw [if_neg (show ¬ nI (σ 0 1) = 0 from nI_ne0 (by omega) (by omega)), rd_at p 5 rfl rfl (by omega), ms.a1 (by omega)]
  have hq : nI s - nI s / nI (σ 0 1) * nI (σ 0 1) = nI (s % σ 0 1) := pk_rem (by omega) (by omega) (by omega)
  rw [pk_div (by omega) (by omega) (by omega)] at hq
  rw [hq]
  unfold ft
  generalize s / σ 0 1 = r at hr ⊢
  generalize s % σ 0 1 = c at hc ⊢
  clear hq
  have e1 : ∀ K : Int32 → Hp → RO, jn (τ := Int32 → Hp → RO) K (fun j51 => jn (τ := Hp → RO) (fun h50 => j51 0 h50) (fun j50 => (if (h 28 0) < (nI r + nI (σ 1 p)) then j50 h else rd h 30 (nI p) (fun r37 => (if nI (σ 0 1) < (nI c + r37) then j50 h else j51 1 h))))) = K (bI (decide (r + σ 1 p ≤ σ 0 0) && decide (c + σ 2 p ≤ σ 0 1))) h := by
    intro K
    simp only [jn]
    by_cases c1 : r + σ 1 p ≤ σ 0 0
    · rw [if_neg (fun q => by rw [ms.R] at q; have := (n_lt rfl (nI_add _ _) (by omega) (by omega)).mp q; omega), rd_at p 5 rfl rfl (by omega), ms.a2 (by omega), decide_eq_true c1]
      by_cases c2 : c + σ 2 p ≤ σ 0 1
      · rw [if_neg (fun q => by have := (n_lt rfl (nI_add _ _) (by omega) (by omega)).mp q; omega), decide_eq_true c2]
        rfl
      · rw [if_pos ((n_lt rfl (nI_add _ _) (by omega) (by omega)).mpr (by omega)), decide_eq_false c2]
        rfl
    · rw [if_pos (by rw [ms.R]; exact (n_lt rfl (nI_add _ _) (by omega) (by omega)).mpr (by omega)), decide_eq_false c1]
      rfl
  refine (e1 _).trans ?_
  generalize (decide (r + σ 1 p ≤ σ 0 0) && decide (c + σ 2 p ≤ σ 0 1)) = B
  clear e1
  have d0 := mg0 (σ 3 p) (by omega)
  have d1 := mg1 (σ 3 p) (by omega)
  have d2 := mg2 (σ 3 p) (by omega)
  have d3 := mg3 (σ 3 p) (by omega)
  have e2 : ∀ K : Int32 → Hp → RO, jn (τ := Int32 → Hp → RO) K (fun j94 =>
    jn (τ := Hp → RO) (fun h93 =>
    j94 0 h93) (fun j93 =>
    (if bI B = 0 then
    j93 h
    else
    rd h 31 (nI p) (fun r63 =>
    jn (τ := Hp → RO) (fun h73 =>
    rd h73 31 (nI p) (fun r78 =>
    jn (τ := Hp → RO) (fun h89 =>
    j94 1 h89) (fun j89 =>
    (if (r78 &&& 2) = 0 then
    j89 h73
    else
    (if nI c = 0 then
    j89 h73
    else
    j93 h73))))) (fun j73 =>
    (if (r63 &&& 1) = 0 then
    j73 h
    else
    (if nI r = 0 then
    j73 h
    else
    j93 h))))))) = K (bI (B && ((!(σ 3 p).testBit 0 || (r == 0)) && (!(σ 3 p).testBit 1 || (c == 0))))) h := by
    intro K
    simp only [jn]
    rw [if_b0]
    cases B with
    | false => rfl
    | true =>
      rw [cond_true, rd_at p 5 rfl rfl (by omega), ms.a3 (by omega), rd_at p 5 rfl rfl (by omega), ms.a3 (by omega)]
      have f1 : (if nI (σ 3 p) &&& 2 = 0 then K 1 h else if nI c = 0 then K 1 h else K 0 h) = K (bI (!(σ 3 p).testBit 1 || (c == 0))) h := by
        by_cases q1 : (σ 3 p).testBit 1 = false
        · rw [if_pos (d1.mpr q1), q1]; rfl
        · rw [if_neg (fun q => q1 (d1.mp q)), show (σ 3 p).testBit 1 = true by simpa using q1]
          by_cases q2 : c = 0
          · rw [if_pos ((n_eq (Y := 0) (b := 0) rfl rfl (by omega) (by omega)).mpr q2), show (c == 0) = true by simp [q2]]; rfl
          · rw [if_neg (fun q => q2 ((n_eq (Y := 0) (b := 0) rfl rfl (by omega) (by omega)).mp q)), show (c == 0) = false by simp [q2]]; rfl
      by_cases q1 : (σ 3 p).testBit 0 = false
      · rw [if_pos (d0.mpr q1), q1, f1]; rfl
      · rw [if_neg (fun q => q1 (d0.mp q)), show (σ 3 p).testBit 0 = true by simpa using q1]
        by_cases q2 : r = 0
        · rw [if_pos ((n_eq (Y := 0) (b := 0) rfl rfl (by omega) (by omega)).mpr q2), show (r == 0) = true by simp [q2], f1]; rfl
        · rw [if_neg (fun q => q2 ((n_eq (Y := 0) (b := 0) rfl rfl (by omega) (by omega)).mp q)), show (r == 0) = false by simp [q2]]; rfl
  refine (e2 _).trans ?_
  clear e2
  have e3 : ∀ (D : Bool) (K : Int32 → Hp → RO), jn (τ := Int32 → Hp → RO) K (fun j160 =>
    jn (τ := Hp → RO) (fun h159 =>
    j160 0 h159) (fun j159 =>
    (if bI D = 0 then
    j159 h
    else
    rd h 31 (nI p) (fun r106 =>
    jn (τ := Hp → RO) (fun h127 =>
    rd h127 31 (nI p) (fun r132 =>
    jn (τ := Hp → RO) (fun h155 =>
    j160 1 h155) (fun j155 =>
    (if (r132 &&& 8) = 0 then
    j155 h127
    else
    rd h127 30 (nI p) (fun r146 =>
    (if (nI c + r146) = (h127 28 1) then
    j155 h127
    else
    j159 h127)))))) (fun j127 =>
    (if (r106 &&& 4) = 0 then
    j127 h
    else
    rd h 29 (nI p) (fun r118 =>
    (if (nI r + r118) = (h 28 0) then
    j127 h
    else
    j159 h)))))))) = K (bI (D && ((!(σ 3 p).testBit 2 || (r + σ 1 p == σ 0 0)) && (!(σ 3 p).testBit 3 || (c + σ 2 p == σ 0 1))))) h := by
    intro D K
    simp only [jn]
    rw [if_b0]
    cases D with
    | false => rfl
    | true =>
      rw [cond_true, rd_at p 5 rfl rfl (by omega), ms.a3 (by omega), rd_at p 5 rfl rfl (by omega), ms.a3 (by omega), rd_at p 5 rfl rfl (by omega), ms.a2 (by omega), rd_at p 5 rfl rfl (by omega), ms.a1 (by omega), ms.R, ms.C]
      have f1 : (if nI (σ 3 p) &&& 8 = 0 then K 1 h else if nI c + nI (σ 2 p) = nI (σ 0 1) then K 1 h else K 0 h) = K (bI (!(σ 3 p).testBit 3 || (c + σ 2 p == σ 0 1))) h := by
        by_cases q1 : (σ 3 p).testBit 3 = false
        · rw [if_pos (d3.mpr q1), q1]; rfl
        · rw [if_neg (fun q => q1 (d3.mp q)), show (σ 3 p).testBit 3 = true by simpa using q1]
          by_cases q2 : c + σ 2 p = σ 0 1
          · rw [if_pos ((n_eq (nI_add _ _) rfl (by omega) (by omega)).mpr q2), show (c + σ 2 p == σ 0 1) = true by simp [q2]]; rfl
          · rw [if_neg (fun q => q2 ((n_eq (nI_add _ _) rfl (by omega) (by omega)).mp q)), show (c + σ 2 p == σ 0 1) = false by simp [q2]]; rfl
      by_cases q1 : (σ 3 p).testBit 2 = false
      · rw [if_pos (d2.mpr q1), q1, f1]; rfl
      · rw [if_neg (fun q => q1 (d2.mp q)), show (σ 3 p).testBit 2 = true by simpa using q1]
        by_cases q2 : r + σ 1 p = σ 0 0
        · rw [if_pos ((n_eq (nI_add _ _) rfl (by omega) (by omega)).mpr q2), show (r + σ 1 p == σ 0 0) = true by simp [q2], f1]; rfl
        · rw [if_neg (fun q => q2 ((n_eq (nI_add _ _) rfl (by omega) (by omega)).mp q)), show (r + σ 1 p == σ 0 0) = false by simp [q2]]; rfl
  refine (e3 _ _).trans ?_
  rw [rd_at p 5 rfl rfl (by omega), ms.a4 (by omega), mletters_eq w ms hp (by omega) (by omega)]
  unfold mgP mgB
  simp only [Bool.and_assoc]
end MFits
