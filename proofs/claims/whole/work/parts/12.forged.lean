/-! THE STATE, read by both sides: forged, taking part, rows and columns -/
theorem MS.a1 {σ : Sg} {h : Hp} (m : MS σ h) {j : Nat} (hj : j < 5) : h 29 j = nI (σ 1 j) := m.2 1 (by decide) (by decide) j hj
theorem MS.a2 {σ : Sg} {h : Hp} (m : MS σ h) {j : Nat} (hj : j < 5) : h 30 j = nI (σ 2 j) := m.2 2 (by decide) (by decide) j hj
theorem MS.a3 {σ : Sg} {h : Hp} (m : MS σ h) {j : Nat} (hj : j < 5) : h 31 j = nI (σ 3 j) := m.2 3 (by decide) (by decide) j hj
theorem MS.a4 {σ : Sg} {h : Hp} (m : MS σ h) {j : Nat} (hj : j < 5) : h 32 j = nI (σ 4 j) := m.2 4 (by decide) (by decide) j hj
theorem MS.a5 {σ : Sg} {h : Hp} (m : MS σ h) {j : Nat} (hj : j < 5) : h 33 j = nI (σ 5 j) := m.2 5 (by decide) (by decide) j hj
theorem MS.a6 {σ : Sg} {h : Hp} (m : MS σ h) {j : Nat} (hj : j < 30) : h 34 j = nI (σ 6 j) := m.2 6 (by decide) (by decide) j hj
theorem MS.a7 {σ : Sg} {h : Hp} (m : MS σ h) {j : Nat} (hj : j < 240) : h 35 j = nI (σ 7 j) := m.2 7 (by decide) (by decide) j hj
theorem MS.a8 {σ : Sg} {h : Hp} (m : MS σ h) {j : Nat} (hj : j < 30) : h 36 j = nI (σ 8 j) - 1 := m.2 8 (by decide) (by decide) j hj
theorem MS.a9 {σ : Sg} {h : Hp} (m : MS σ h) {j : Nat} (hj : j < 30) : h 37 j = nI (σ 9 j) - 1 := m.2 9 (by decide) (by decide) j hj
theorem MS.a10 {σ : Sg} {h : Hp} (m : MS σ h) {j : Nat} (hj : j < 30) : h 38 j = nI (σ 10 j) := m.2 10 (by decide) (by decide) j hj
theorem MS.a11 {σ : Sg} {h : Hp} (m : MS σ h) {j : Nat} (hj : j < 30) : h 39 j = nI (σ 11 j) - 1 := m.2 11 (by decide) (by decide) j hj
theorem MS.a12 {σ : Sg} {h : Hp} (m : MS σ h) {j : Nat} (hj : j < 30) : h 40 j = nI (σ 12 j) := m.2 12 (by decide) (by decide) j hj
theorem MS.a13 {σ : Sg} {h : Hp} (m : MS σ h) {j : Nat} (hj : j < 6) : h 41 j = nI (σ 13 j) := m.2 13 (by decide) (by decide) j hj
theorem MS.a14 {σ : Sg} {h : Hp} (m : MS σ h) {j : Nat} (hj : j < 6) : h 42 j = nI (σ 14 j) := m.2 14 (by decide) (by decide) j hj
section Rd2
variable {σ : Sg} {h : Hp}
theorem any_succ (f : Nat → Bool) (n : Nat) : (List.range (n + 1)).any f = ((List.range n).any f || f n) := by
  rw [List.range_succ, List.any_append]
  simp
theorem any_false {f : Nat → Bool} {n : Nat} (hf : ∀ i, i < n → f i = false) : (List.range n).any f = false := by
  rw [List.any_eq_false]
  intro x hx
  rw [hf x (List.mem_range.mp hx)]
  simp
theorem any_true {f : Nat → Bool} {n i : Nat} (hi : i < n) (hf : f i = true) : (List.range n).any f = true := List.any_eq_true.mpr ⟨i, List.mem_range.mpr hi, hf⟩
theorem isForged_eq {p : Nat} (w0 : WF σ) (cs : CS σ h) (hp : p < σ 0 2) : fT_isForged h (nI p) = some (bI (fgP σ p), h) := by
  have hsz := w0.sz_le hp
  have hfi := w0.fi_le hp
  have hend := w0.end_le hp
  have hnc := w0.nc_le
  have hnp := w0.1.2.2.2.2.2.1
  unfold fT_isForged
  rw [pieceFact_eq (W := 4) (w := 4) w0 cs hp rfl (by decide), cal_some, pieceFact_eq (W := 3) (w := 3) w0 cs hp rfl (by decide), cal_some]
  show fT_isForged_L14 (nI (σ 4 p + sz σ p)) FU (nI (σ 4 p)) h = _
  refine loopF (fun n (a : Int32 × Hp) => fT_isForged_L14 (nI (σ 4 p + sz σ p)) n a.1 a.2) (fun i a => a = (nI (σ 4 p + i), h) ∧ ∀ j, j < i → fgC σ (σ 4 p + j) = false) (fun o => o = some (bI (fgP σ p), h)) (sz σ p) (by omega) ?_ ?_ 0 (nI (σ 4 p), h) (by omega) ⟨rfl, fun j hj => by omega⟩
  · rintro i a n hi ⟨rfl, hI⟩
    simp only [fT_isForged_L14]
    rw [if_neg (fun q => by have := (n_le rfl rfl (by omega) (by omega)).mp q; omega), copyFact_eq (W := 8) (w := 8) w0 cs (by omega) rfl (by decide), cal_some]
    rw [show cpF σ (σ 4 p + i) 8 = nI (thM σ (σ 4 p + i)) from rfl, isBarred_eq w0 cs (by omega), cal_some, if_b0]
    cases hf : fgC σ (σ 4 p + i) with
    | true =>
      right
      rw [show fgP σ p = true from any_true hi hf]
      rfl
    | false =>
      left
      refine ⟨(nI (σ 4 p + (i + 1)), h), ⟨rfl, fun j hj => ?_⟩, ?_⟩
      · rcases (show j < i ∨ j = i by omega) with q | q
        · exact hI j q
        · rw [q]; exact hf
      · rw [cond_false, n_s1]
        rfl
  · rintro a n ⟨rfl, hI⟩
    simp only [fT_isForged_L14]
    rw [if_pos (Int32.le_refl _), show fgP σ p = false from any_false hI]
    rfl
theorem takesPart_eq {p : Nat} (w0 : WF σ) (cs : CS σ h) (hp : p < σ 0 2) : fT_takesPart h (nI p) = some (bI (tk σ p), h) := by
  have h5 := (w0.2.1 p hp).2.2.2.2.2
  unfold fT_takesPart fT_isOut
  rw [pieceFact_eq (W := 5) (w := 5) w0 cs hp rfl (by decide), cal_some]
  show cal (if nI (σ 5 p) = 1 then _ else _) _ = _
  unfold tk
  rcases (show σ 5 p = 0 ∨ σ 5 p = 1 by omega) with e | e
  · rw [e, if_neg (by decide), retz_0, cal_some, if_pos rfl, isForged_eq w0 cs hp, cal_some, if_b0]
    cases fgP σ p <;> rfl
  · rw [e, if_pos (by decide), retz_1, cal_some, if_neg (by decide)]
    rfl
-- how many of the pieces
def cntP (f : Nat → Bool) : Nat → Nat
  | 0 => 0
  | n + 1 => cntP f n + (if f n then 1 else 0)
theorem cntP_le (f : Nat → Bool) : ∀ n, cntP f n ≤ n
  | 0 => Nat.le_refl 0
  | n + 1 => by
    have := cntP_le f n
    unfold cntP
    split <;> omega
-- the reference's readers
theorem mpiece_eq (ms : MS σ h) (x : Int32) : fM_isPiece h x = some (bI (wn x 0 (nI (σ 0 2) - 1)), h) := by
  unfold fM_isPiece
  rw [in_eq, cal_some, ms.np, retz_b]
theorem mcopy_eq (ms : MS σ h) (x : Int32) : fM_isCopy h x = some (bI (wn x 0 (nI (σ 0 3) - 1)), h) := by
  unfold fM_isCopy
  rw [in_eq, cal_some, ms.nc, retz_b]
theorem mplaces_eq (ms : MS σ h) : fM_places h = some (nI (σ 0 0 * σ 0 1), h) := by
  unfold fM_places
  rw [ms.R, ms.C, n_mul]
  rfl
theorem mplace_eq (ms : MS σ h) (x : Int32) : fM_isPlace h x = some (bI (wn x 0 (nI (σ 0 0 * σ 0 1) - 1)), h) := by
  unfold fM_isPlace
  rw [mplaces_eq ms, cal_some, in_eq, cal_some, retz_b]
theorem mmark_eq (x : Int32) : fM_isMark h x = some (bI (wn x 0 7), h) := by
  unfold fM_isMark
  rw [in_eq, cal_some, retz_b]
theorem rowOf_eq {c : Nat} (w0 : WF σ) (ms : MS σ h) (hc : c < σ 0 3) : fM_rowOf h (nI c) = some (nI (rw_ σ c), h) := by
  obtain ⟨h1, h2, h3⟩ := w0.po hc
  have hnc := w0.nc_le
  have hnp := w0.1.2.2.2.2.2.1
  obtain ⟨a1, a2, a3, a4, -⟩ := w0.2.1 _ h1
  unfold fM_rowOf
  rw [rd_at c 30 rfl rfl (by omega), ms.a6 (by omega), rd_at (σ 6 c) 5 rfl rfl (by omega), ms.a4 (by omega), rd_at c 30 rfl rfl (by omega), ms.a6 (by omega), rd_at (σ 6 c) 5 rfl rfl (by omega), ms.a2 (by omega), pk_sub h2]
  unfold dv
  rw [if_neg (nI_ne0 (by omega) (by omega)), pk_div (by omega) (by omega) (by omega)]
  rfl
theorem colOf_eq {c : Nat} (w0 : WF σ) (ms : MS σ h) (hc : c < σ 0 3) : fM_columnOf h (nI c) = some (nI (cl_ σ c), h) := by
  obtain ⟨h1, h2, h3⟩ := w0.po hc
  have hnc := w0.nc_le
  have hnp := w0.1.2.2.2.2.2.1
  obtain ⟨a1, a2, a3, a4, -⟩ := w0.2.1 _ h1
  unfold fM_columnOf
  rw [rd_at c 30 rfl rfl (by omega), ms.a6 (by omega), rd_at (σ 6 c) 5 rfl rfl (by omega), ms.a4 (by omega), rd_at c 30 rfl rfl (by omega), ms.a6 (by omega), rd_at (σ 6 c) 5 rfl rfl (by omega), ms.a2 (by omega), pk_sub h2]
  unfold rm_
  rw [if_neg (nI_ne0 (by omega) (by omega)), pk_rem (by omega) (by omega) (by omega)]
  rfl
theorem sizeOf_eq {p : Nat} (ms : MS σ h) (hp : p < 5) : fM_sizeOf h (nI p) = some (nI (sz σ p), h) := by
  unfold fM_sizeOf
  rw [rd_at p 5 rfl rfl hp, ms.a1 hp, rd_at p 5 rfl rfl hp, ms.a2 hp, n_mul]
  rfl
theorem mforgedC {c : Nat} {K : Int32 → Hp → RO} {x1 : Int32} (w0 : WF σ) (ms : MS σ h) (hc : c < σ 0 3) (b : Bool) : fM_isForged_L28 K x1 (nI c) FU (bI b) 0 h = K (bI (b || fgC σ c)) h := by
  have hnc := w0.nc_le
  have hnb := w0.1.2.2.2.2.2.2
  have q := loopS (fun n (a : Int32 × Int32 × Hp) => fM_isForged_L28 K x1 (nI c) n a.1 a.2.1 a.2.2) (fun i => (bI (b || (List.range i).any (fun k => σ 7 (8 * c + σ 13 k) == 1 && σ 7 (8 * c + σ 14 k) == 1)), nI i, h)) (K (bI (b || fgC σ c)) h) (σ 0 4) (by omega) (by
    intro i n hi
    obtain ⟨b1, b2, -⟩ := w0.2.2.2.2.2 i hi
    have m1 := (w0.2.2.2.2.1 c hc).1 _ b1
    have m2 := (w0.2.2.2.2.1 c hc).1 _ b2
    simp only [fM_isForged_L28, jn]
    rw [if_neg (fun q => by rw [ms.nb] at q; have := (n_le rfl rfl (by omega) (by omega)).mp q; omega), if_b0, any_succ, n_s1]
    cases hb : (b || (List.range i).any fun k => σ 7 (8 * c + σ 13 k) == 1 && σ 7 (8 * c + σ 14 k) == 1) with
    | true =>
      rw [cond_true, ← Bool.or_assoc, hb, Bool.true_or]
      rfl
    | false =>
      rw [cond_false, ← Bool.or_assoc, hb, Bool.false_or, rd_at i 6 rfl rfl (by omega), ms.a13 (by omega), rd_at (8 * c + σ 13 i) 240 rfl (n_ix' (Mm := 8) rfl rfl) (by omega), ms.a7 (by omega)]
      by_cases e1 : σ 7 (8 * c + σ 13 i) = 1
      · rw [e1, if_pos (by decide), rd_at i 6 rfl rfl (by omega), ms.a14 (by omega), rd_at (8 * c + σ 14 i) 240 rfl (n_ix' (Mm := 8) rfl rfl) (by omega), ms.a7 (by omega)]
        by_cases e2 : σ 7 (8 * c + σ 14 i) = 1
        · rw [e2, if_pos (by decide)]
          rfl
        · rw [if_neg (fun q => e2 ((n_eq (Y := 1) (b := 1) rfl rfl (by omega) (by omega)).mp q)), show (σ 7 (8 * c + σ 14 i) == 1) = false from beq_false_of_ne e2]
          rfl
      · rw [if_neg (fun q => e1 ((n_eq (Y := 1) (b := 1) rfl rfl (by omega) (by omega)).mp q)), show (σ 7 (8 * c + σ 13 i) == 1) = false from beq_false_of_ne e1]
        rfl) (by
    intro n
    simp only [fM_isForged_L28]
    rw [if_pos (by rw [ms.nb]; exact Int32.le_refl _)]
    rfl) 0 (by omega)
  have q2 : fM_isForged_L28 K x1 (nI c) FU (bI (b || (List.range 0).any (fun k => σ 7 (8 * c + σ 13 k) == 1 && σ 7 (8 * c + σ 14 k) == 1))) (nI 0) h = K (bI (b || fgC σ c)) h := q
  rw [show (b || (List.range 0).any (fun k => σ 7 (8 * c + σ 13 k) == 1 && σ 7 (8 * c + σ 14 k) == 1)) = b by simp] at q2
  exact q2
theorem mforged_eq {p : Nat} (w0 : WF σ) (ms : MS σ h) (hp : p < σ 0 2) : fM_isForged h (nI p) = some (bI (fgP σ p), h) := by
  have hsz := w0.sz_le hp
  have hfi := w0.fi_le hp
  have hend := w0.end_le hp
  have hnc := w0.nc_le
  have hnp := w0.1.2.2.2.2.2.1
  unfold fM_isForged
  rw [rd_at p 5 rfl rfl (by omega), ms.a4 (by omega)]
  have q := loopS (fun n (a : Int32 × Int32 × Hp) => fM_isForged_L9 (nI p) n a.1 a.2.1 a.2.2) (fun i => (bI ((List.range i).any (fun j => fgC σ (σ 4 p + j))), nI (σ 4 p + i), h)) (some (bI (fgP σ p), h)) (sz σ p) (by omega) (by
    intro i n hi
    simp only [fM_isForged_L9]
    rw [rd_at p 5 rfl rfl (by omega), ms.a4 (by omega), sizeOf_eq ms (by omega), cal_some, nI_add, if_neg (fun q => by have := (n_le rfl rfl (by omega) (by omega)).mp q; omega), mforgedC w0 ms (by omega), any_succ, n_s1]
    rfl) (by
    intro n
    simp only [fM_isForged_L9]
    rw [rd_at p 5 rfl rfl (by omega), ms.a4 (by omega), sizeOf_eq ms (by omega), cal_some, nI_add, if_pos (Int32.le_refl _), retz_b]
    rfl) 0 (by omega)
  exact q
theorem mtakes_eq {p : Nat} (w0 : WF σ) (ms : MS σ h) (hp : p < σ 0 2) : fM_takesPart h (nI p) = some (bI (tk σ p), h) := by
  have h5 := (w0.2.1 p hp).2.2.2.2.2
  have hnp := w0.1.2.2.2.2.2.1
  unfold fM_takesPart
  rw [rdz_at p 5 rfl rfl (by omega), ms.a5 (by omega)]
  unfold tk
  rcases (show σ 5 p = 0 ∨ σ 5 p = 1 by omega) with e | e
  · rw [e, if_pos (by decide), mforged_eq w0 ms hp, cal_some, if_b0]
    cases fgP σ p <;> rfl
  · rw [e, if_neg (by decide)]
    rfl
end Rd2
