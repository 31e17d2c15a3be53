/-! INVERTED PAIRS -/
section Inverted
variable {σ : Sg} {h : Hp}
theorem d1_le {a b : Nat} (ha : a ≤ 1000) (hb : b ≤ 1000) : nI a - 1 ≤ nI b - 1 ↔ a ≤ b := by
  cases a with
  | zero =>
    cases b with
    | zero => exact ⟨fun _ => Nat.le_refl _, fun _ => Int32.le_refl _⟩
    | succ b =>
      rw [nI_pred]
      have := nI_pos' (n := b) (by omega)
      exact ⟨fun _ => Nat.zero_le _, fun _ => Int32.le_trans (show nI 0 - 1 ≤ 0 by decide) this⟩
  | succ a =>
    rw [nI_pred]
    cases b with
    | zero =>
      have := nI_pos' (n := a) (by omega)
      exact ⟨fun z => absurd (Int32.le_trans this z) (by decide), fun z => by omega⟩
    | succ b =>
      rw [nI_pred, nI_leI (by omega) (by omega)]
      omega
theorem d1_no {a : Nat} (ha : a ≤ 1000) : nI a - 1 = -1 ↔ a = 0 := by
  cases a with
  | zero => exact ⟨fun _ => rfl, fun _ => by decide⟩
  | succ a =>
    rw [nI_pred]
    have := nI_pos' (n := a) (by omega)
    exact ⟨fun z => by rw [z] at this; exact absurd this (by decide), fun z => by omega⟩
theorem d1_neg {a : Nat} (ha : a ≤ 1000) : nI a - 1 < 0 ↔ a = 0 := by
  cases a with
  | zero => exact ⟨fun _ => rfl, fun _ => by decide⟩
  | succ a =>
    rw [nI_pred]
    exact ⟨fun z => absurd z (Int32.not_lt.mpr (nI_pos' (by omega))), fun z => by omega⟩
/-- worn less, dated later -/
def iv (σ : Sg) (a b : Nat) : Bool := decide (σ 10 a < σ 10 b) && (decide (σ 11 b ≠ 0) && decide (σ 11 b < σ 11 a))
def pr (σ : Sg) (n : Nat) (l : Nat → Nat) : Nat := sumN (fun i => sumN (fun a => if iv σ (l a) (l i) then 1 else 0) i) n
theorem areInv_eq {a b : Nat} (w : WF σ) (cs : CS σ h) (ha : a < σ 0 3) (hb : b < σ 0 3) (hs : σ 10 a ≤ σ 10 b) : fU_areInverted h (nI a) (nI b) = some (bI (iv σ a b), h) := by
  have wa := w.2.2.2.2.1 a ha
  have wb := w.2.2.2.2.1 b hb
  unfold fU_areInverted iv
  rw [copyFact_eq (W := 6) (w := 6) w cs ha rfl (by decide), cal_some, copyFact_eq (W := 6) (w := 6) w cs hb rfl (by decide), cal_some, copyFact_eq (W := 5) (w := 5) w cs ha rfl (by decide), cal_some, copyFact_eq (W := 5) (w := 5) w cs hb rfl (by decide), cal_some]
  show (if nI (σ 10 a) = nI (σ 10 b) then _ else if nI (σ 11 b) - 1 = -1 then _ else if nI (σ 11 a) - 1 ≤ nI (σ 11 b) - 1 then _ else _) = _
  by_cases q : σ 10 a = σ 10 b
  · rw [if_pos (by rw [q]), decide_eq_false (show ¬ σ 10 a < σ 10 b by omega)]
    rfl
  · rw [if_neg (fun z => q ((nI_eq (by omega) (by omega)).mp z)), decide_eq_true (show σ 10 a < σ 10 b by omega)]
    by_cases q2 : σ 11 b = 0
    · rw [if_pos ((d1_no (by omega)).mpr q2), decide_eq_false (show ¬ σ 11 b ≠ 0 from fun z => z q2)]
      rfl
    · rw [if_neg (fun z => q2 ((d1_no (by omega)).mp z)), decide_eq_true (show σ 11 b ≠ 0 from q2)]
      by_cases q3 : σ 11 a ≤ σ 11 b
      · rw [if_pos ((d1_le (by omega) (by omega)).mpr q3), decide_eq_false (show ¬ σ 11 b < σ 11 a by omega)]
        rfl
      · rw [if_neg (fun z => q3 ((d1_le (by omega) (by omega)).mp z)), decide_eq_true (show σ 11 b < σ 11 a by omega)]
        rfl
theorem inv12 {K : Int32 → Hp → RO} {n i : Nat} {l : Nat → Nat} {x1 : Int32} (w : WF σ) (cs : CS σ h) (ln : LN σ n l) (hi : i < n) (h27 : ∀ i, i < n → h 27 i = nI (l i)) (v : Nat) : fU_invertedInLine_L12 K x1 (nI i) FU (nI v) 0 h = K (nI (v + sumN (fun a => if iv σ (l a) (l i) then 1 else 0) i)) h := by
  have n5 := ln.1
  refine loopS (fun k (a : Int32 × Int32 × Hp) => fU_invertedInLine_L12 K x1 (nI i) k a.1 a.2.1 a.2.2) (fun t => (nI (v + sumN (fun a => if iv σ (l a) (l i) then 1 else 0) t), nI t, h)) _ i (by omega) ?_ ?_ 0 (by omega)
  · intro t k ht
    show fU_invertedInLine_L12 K x1 (nI i) (k + 1) (nI (v + sumN (fun a => if iv σ (l a) (l i) then 1 else 0) t)) (nI t) h = fU_invertedInLine_L12 K x1 (nI i) k (nI (v + (sumN (fun a => if iv σ (l a) (l i) then 1 else 0) t + (if iv σ (l t) (l i) then 1 else 0)))) (nI (t + 1)) h
    rw [fU_invertedInLine_L12, if_neg (fun z => by have := (nI_leI (by omega) (by omega)).mp z; omega), rd_at t 5 rfl rfl (by omega), rd_at i 5 rfl rfl (by omega), h27 t (by omega), h27 i hi, areInv_eq w cs (ln.2.1 t (by omega)) (ln.2.1 i hi) (ln.2.2 t i ht hi), cal_some, jn_eq, if_b0, n_s1, n_s1]
    cases iv σ (l t) (l i) <;> rfl
  · intro k
    show fU_invertedInLine_L12 K x1 (nI i) (k + 1) (nI (v + sumN (fun a => if iv σ (l a) (l i) then 1 else 0) i)) (nI i) h = _
    rw [fU_invertedInLine_L12, if_pos (Int32.le_refl _)]
theorem invLine_eq {n : Nat} {l : Nat → Nat} (w : WF σ) (cs : CS σ h) (ln : LN σ n l) (h27 : ∀ i, i < n → h 27 i = nI (l i)) : fU_invertedInLine h (nI n) = some (nI (pr σ n l), h) := by
  have n5 := ln.1
  unfold fU_invertedInLine
  by_cases n0 : n = 0
  · obtain ⟨N, hN⟩ : ∃ N, FU = N + 1 := ⟨99999, rfl⟩
    rw [n0, hN, fU_invertedInLine_L4, if_pos (show nI 0 ≤ 1 by decide)]
    rfl
  · refine loopS (fun k (a : Int32 × Int32 × Hp) => fU_invertedInLine_L4 (nI n) k a.1 a.2.1 a.2.2) (fun i => (nI (pr σ i l), nI i, h)) _ n (by omega) ?_ ?_ 1 (by omega)
    · intro i k hi
      show fU_invertedInLine_L4 (nI n) (k + 1) (nI (pr σ i l)) (nI i) h = fU_invertedInLine_L4 (nI n) k (nI (pr σ i l + sumN (fun a => if iv σ (l a) (l i) then 1 else 0) i)) (nI (i + 1)) h
      rw [fU_invertedInLine_L4, if_neg (fun z => by have := (nI_leI (by omega) (by omega)).mp z; omega), inv12 w cs ln hi h27, n_s1]
    · intro k
      show fU_invertedInLine_L4 (nI n) (k + 1) (nI (pr σ n l)) (nI n) h = _
      rw [fU_invertedInLine_L4, if_pos (Int32.le_refl _)]
      rfl
theorem minv35 {K : Int32 → Hp → RO} {n i : Nat} {l : Nat → Nat} {x2 : Int32} (w : WF σ) (ms : MS σ h) (ln : LN σ n l) (hi : i < n) (h54 : ∀ i, i < n → h 54 i = nI (l i)) (v : Nat) : fM_inverted_L35 K x2 (nI i) FU (nI v) 0 h = K (nI (v + sumN (fun a => if iv σ (l a) (l i) then 1 else 0) i)) h := by
  have n5 := ln.1
  have c30 := w.nc_le
  refine loopS (fun k (a : Int32 × Int32 × Hp) => fM_inverted_L35 K x2 (nI i) k a.1 a.2.1 a.2.2) (fun t => (nI (v + sumN (fun a => if iv σ (l a) (l i) then 1 else 0) t), nI t, h)) _ i (by omega) ?_ ?_ 0 (by omega)
  · intro t k ht
    show fM_inverted_L35 K x2 (nI i) (k + 1) (nI (v + sumN (fun a => if iv σ (l a) (l i) then 1 else 0) t)) (nI t) h = fM_inverted_L35 K x2 (nI i) k (nI (v + (sumN (fun a => if iv σ (l a) (l i) then 1 else 0) t + (if iv σ (l t) (l i) then 1 else 0)))) (nI (t + 1)) h
    rw [← Nat.add_assoc v (sumN (fun a => if iv σ (l a) (l i) then 1 else 0) t) (if iv σ (l t) (l i) then 1 else 0)]
    have lt := ln.2.1 t (by omega)
    have li := ln.2.1 i hi
    have wa := w.2.2.2.2.1 _ lt
    have wb := w.2.2.2.2.1 _ li
    have R1 : ∀ f, rd h 54 (nI t) f = f (nI (l t)) := fun f => by rw [rd_at t 30 rfl rfl (by omega), h54 t (by omega)]
    have R2 : ∀ f, rd h 54 (nI i) f = f (nI (l i)) := fun f => by rw [rd_at i 30 rfl rfl (by omega), h54 i hi]
    have R3 : ∀ f, rd h 38 (nI (l t)) f = f (nI (σ 10 (l t))) := fun f => by rw [rd_at (l t) 30 rfl rfl (by omega), ms.a10 (by omega)]
    have R4 : ∀ f, rd h 38 (nI (l i)) f = f (nI (σ 10 (l i))) := fun f => by rw [rd_at (l i) 30 rfl rfl (by omega), ms.a10 (by omega)]
    have R5 : ∀ f, rd h 39 (nI (l t)) f = f (nI (σ 11 (l t)) - 1) := fun f => by rw [rd_at (l t) 30 rfl rfl (by omega), ms.a11 (by omega)]
    have R6 : ∀ f, rd h 39 (nI (l i)) f = f (nI (σ 11 (l i)) - 1) := fun f => by rw [rd_at (l i) 30 rfl rfl (by omega), ms.a11 (by omega)]
    rw [fM_inverted_L35, if_neg (fun z => by have := (nI_leI (by omega) (by omega)).mp z; omega)]
    simp only [jn_eq, bnd_eq, R1, R2, R3, R4, R5, R6]
    rw [n_s1, n_s1, nI_z]
    unfold iv
    by_cases q : σ 10 (l i) ≤ σ 10 (l t)
    · rw [if_pos ((nI_leI (by omega) (by omega)).mpr q), decide_eq_false (show ¬ σ 10 (l t) < σ 10 (l i) by omega)]
      rfl
    · rw [if_neg (fun z => q ((nI_leI (by omega) (by omega)).mp z)), decide_eq_true (show σ 10 (l t) < σ 10 (l i) by omega)]
      by_cases q1 : σ 11 (l t) = 0
      · rw [if_pos ((d1_neg (by omega)).mpr q1), decide_eq_false (show ¬ σ 11 (l i) < σ 11 (l t) by omega), Bool.and_false]
        rfl
      · rw [if_neg (fun z => q1 ((d1_neg (by omega)).mp z))]
        by_cases q2 : σ 11 (l i) = 0
        · rw [if_pos ((d1_neg (by omega)).mpr q2), decide_eq_false (show ¬ σ 11 (l i) ≠ 0 from fun z => z q2)]
          rfl
        · rw [if_neg (fun z => q2 ((d1_neg (by omega)).mp z)), decide_eq_true (show σ 11 (l i) ≠ 0 from q2)]
          by_cases q3 : σ 11 (l t) ≤ σ 11 (l i)
          · rw [if_pos ((d1_le (by omega) (by omega)).mpr q3), decide_eq_false (show ¬ σ 11 (l i) < σ 11 (l t) by omega)]
            rfl
          · rw [if_neg (fun z => q3 ((d1_le (by omega) (by omega)).mp z)), decide_eq_true (show σ 11 (l i) < σ 11 (l t) by omega)]
            rfl
  · intro k
    show fM_inverted_L35 K x2 (nI i) (k + 1) (nI (v + sumN (fun a => if iv σ (l a) (l i) then 1 else 0) i)) (nI i) h = _
    rw [fM_inverted_L35, if_pos (Int32.le_refl _)]
theorem minv24 {K : Int32 → Hp → RO} {n : Nat} {l : Nat → Nat} {x2 : Int32} (w : WF σ) (ms : MS σ h) (ln : LN σ n l) (h34 : h 28 34 = nI n) (h54 : ∀ i, i < n → h 54 i = nI (l i)) (v : Nat) : fM_inverted_L24 K x2 FU (nI v) 0 h = K (nI (v + pr σ n l)) h := by
  have n5 := ln.1
  refine loopS (fun k (a : Int32 × Int32 × Hp) => fM_inverted_L24 K x2 k a.1 a.2.1 a.2.2) (fun i => (nI (v + pr σ i l), nI i, h)) _ n (by omega) ?_ ?_ 0 (by omega)
  · intro i k hi
    show fM_inverted_L24 K x2 (k + 1) (nI (v + pr σ i l)) (nI i) h = fM_inverted_L24 K x2 k (nI (v + (pr σ i l + sumN (fun a => if iv σ (l a) (l i) then 1 else 0) i))) (nI (i + 1)) h
    rw [← Nat.add_assoc v (pr σ i l) (sumN (fun a => if iv σ (l a) (l i) then 1 else 0) i)]
    rw [fM_inverted_L24, h34, if_neg (fun z => by have := (nI_leI (by omega) (by omega)).mp z; omega), minv35 w ms ln hi h54, n_s1]
  · intro k
    show fM_inverted_L24 K x2 (k + 1) (nI (v + pr σ n l)) (nI n) h = _
    rw [fM_inverted_L24, h34, if_pos (Int32.le_refl _)]
end Inverted
