/-! WHERE A PIECE MAY LIE: the class's spotsOf, the reference's fits -/
section Fits
variable {σ : Sg} {h : Hp}
/-- all of the first n -/
def alP (f : Nat → Bool) : Nat → Bool
  | 0 => true
  | n + 1 => alP f n && f n
theorem alP_iff {f : Nat → Bool} : ∀ {n}, alP f n = true ↔ ∀ i, i < n → f i = true
  | 0 => ⟨fun _ i hi => by omega, fun _ => rfl⟩
  | n + 1 => by
    unfold alP
    rw [Bool.and_eq_true, alP_iff]
    constructor
    · rintro ⟨h1, h2⟩ i hi
      rcases (show i < n ∨ i = n by omega) with q | q
      · exact h1 i q
      · rw [q]; exact h2
    · intro h1
      exact ⟨fun i hi => h1 i (by omega), h1 n (by omega)⟩
theorem alP_f {f : Nat → Bool} {n i : Nat} (hi : i < n) (hf : f i = false) : alP f n = false := by
  cases hq : alP f n with
  | false => rfl
  | true => rw [alP_iff.mp hq i hi] at hf; exact absurd hf (by decide)
/-- the margins of a piece, on the sheet's rim -/
def mgB (m : Nat) (b0 b1 b2 b3 : Bool) : Bool := (!m.testBit 0 || b0) && (!m.testBit 1 || b1) && ((!m.testBit 2 || b2) && (!m.testBit 3 || b3))
def ltC (σ : Sg) (r c q : Nat) : Bool := (σ 8 q == 0 || σ 8 q == r + rw_ σ q + 1) && (σ 9 q == 0 || σ 9 q == c + cl_ σ q + 1)
def ltP (σ : Sg) (p r c : Nat) : Bool := alP (fun i => ltC σ r c (σ 4 p + i)) (sz σ p)
def mgP (σ : Sg) (p r c : Nat) : Bool := mgB (σ 3 p) (r == 0) (c == 0) (r + σ 1 p == σ 0 0) (c + σ 2 p == σ 0 1)
/-- a piece may lie with its upper left copy on place s -/
def ft (σ : Sg) (p s : Nat) : Bool := (decide (s / σ 0 1 + σ 1 p ≤ σ 0 0) && decide (s % σ 0 1 + σ 2 p ≤ σ 0 1)) && mgP σ p (s / σ 0 1) (s % σ 0 1) && ltP σ p (s / σ 0 1) (s % σ 0 1)
def spM (σ : Sg) (p : Nat) : Nat := msk (ft σ p) (σ 0 0 * σ 0 1)
theorem mg_dec : ∀ m, m < 16 → ∀ b0 b1 b2 b3 : Bool, ((nI m &&& ((((0 ||| (if b0 = true then (1 : Int32) else 0)) ||| (if b1 = true then (2 : Int32) else 0)) ||| (if b2 = true then (4 : Int32) else 0)) ||| (if b3 = true then (8 : Int32) else 0))) = nI m) ↔ mgB m b0 b1 b2 b3 = true := by decide +kernel
theorem let_dec : ∀ a, a < 5 → ∀ v, v < 20 → ((nI a - 1 = nI v) ↔ a = v + 1) := by decide +kernel
theorem let_neg : ∀ a, a < 5 → ((nI a - 1 = (-1 : Int32)) ↔ a = 0) := by decide +kernel
theorem let_lt0 : ∀ a, a < 5 → ((nI a - 1 < (0 : Int32)) ↔ a = 0) := by decide +kernel
theorem sub_dec : ∀ a, a < 5 → ∀ b, b < 5 → ∀ r, r < 10 → ((nI a - nI b < nI r) ↔ a < r + b) := by decide +kernel
theorem jif (K : Int32 → Hp → RO) (c : Prop) [Decidable c] (a b : Int32) (h : Hp) : (if c then K a h else K b h) = K (if c then a else b) h := by split <;> rfl
theorem if_bq {a b : Nat} {X Y : Int32} {A B : Int32} (hX : X = nI a) (hY : Y = nI b) (ha : a < 2 ^ 31) (hb : b < 2 ^ 31) : (if X = Y then A else B) = (if (a == b) = true then A else B) := by
  by_cases e : a = b
  · rw [if_pos ((n_eq hX hY ha hb).mpr e), if_pos (by rw [e]; exact beq_self_eq_true b)]
  · rw [if_neg (fun q => e ((n_eq hX hY ha hb).mp q)), if_neg (by simpa using e)]
theorem keepsMargins_eq {p r c : Nat} (w : WF σ) (cs : CS σ h) (hp : p < σ 0 2) (hr : r < 20) (hc : c < 20) : fT_keepsMargins h (nI p) (nI r) (nI c) = some (bI (mgP σ p r c), h) := by
  obtain ⟨a1, a2, a3, a4, a5, a6⟩ := w.2.1 p hp
  have b1 := w.1
  unfold fT_keepsMargins
  rw [pieceFact_eq (W := 2) (w := 2) w cs hp rfl (by decide), cal_some]
  have p0 := pieceFact_eq (W := 0) (w := 0) w cs hp rfl (by decide)
  have p1 := pieceFact_eq (W := 1) (w := 1) w cs hp rfl (by decide)
  have c0 : (nI r = 0) = ((r == 0) = true) := propext ((n_eq (Y := 0) (b := 0) rfl rfl (by omega) (by omega)).trans beq_iff_eq.symm)
  have c1 : (nI c = 0) = ((c == 0) = true) := propext ((n_eq (Y := 0) (b := 0) rfl rfl (by omega) (by omega)).trans beq_iff_eq.symm)
  have c2 : (nI r + nI (pcF σ p 0) = h 1 0) = ((r + σ 1 p == σ 0 0) = true) := propext ((n_eq (nI_add r (σ 1 p)) (cs.1 0 (by decide)) (by omega) (by omega)).trans beq_iff_eq.symm)
  have c3 : (nI c + nI (pcF σ p 1) = h 1 1) = ((c + σ 2 p == σ 0 1) = true) := propext ((n_eq (nI_add c (σ 2 p)) (cs.1 1 (by decide)) (by omega) (by omega)).trans beq_iff_eq.symm)
  simp only [jn, bnd, p0, p1, cal_some, c0, c1, c2, c3]
  rw [show pcF σ p 2 = σ 3 p from rfl]
  unfold mgP
  have fin : ∀ b0 b1 b2 b3 : Bool, (if (nI (σ 3 p) &&& ((((0 ||| (if b0 = true then (1 : Int32) else 0)) ||| (if b1 = true then (2 : Int32) else 0)) ||| (if b2 = true then (4 : Int32) else 0)) ||| (if b3 = true then (8 : Int32) else 0))) = nI (σ 3 p) then retz 1 h else retz 0 h) = some (bI (mgB (σ 3 p) b0 b1 b2 b3), h) := by
    intro b0 b1 b2 b3
    have key := mg_dec (σ 3 p) (by omega) b0 b1 b2 b3
    cases hm : mgB (σ 3 p) b0 b1 b2 b3 with
    | true => rw [if_pos (key.mpr hm)]; rfl
    | false => rw [if_neg (fun q => by rw [key.mp q] at hm; exact absurd hm (by decide))]; rfl
  generalize (r == 0) = b0
  generalize (c == 0) = b1
  generalize (r + σ 1 p == σ 0 0) = b2
  generalize (c + σ 2 p == σ 0 1) = b3
  have f := fin b0 b1 b2 b3
  clear fin c0 c1 c2 c3 p0 p1
  cases b0 <;> cases b1 <;> cases b2 <;> cases b3 <;> simp only [reduceIte, Bool.false_eq_true] at f ⊢ <;> exact f
theorem keepsLetters_eq {p r c : Nat} (w : WF σ) (cs : CS σ h) (hp : p < σ 0 2) (hr : r < 10) (hc : c < 10) : fT_keepsLetters h (nI p) (nI r) (nI c) = some (bI (ltP σ p r c), h) := by
  have hsz := w.sz_le hp
  have hend := w.end_le hp
  have hnc := w.nc_le
  unfold fT_keepsLetters
  rw [pieceFact_eq (W := 4) (w := 4) w cs hp rfl (by decide), cal_some, pieceFact_eq (W := 3) (w := 3) w cs hp rfl (by decide), cal_some]
  show fT_keepsLetters_L16 (nI r) (nI c) (nI (σ 4 p + sz σ p)) FU (nI (σ 4 p)) h = _
  refine loopF (fun n (a : Int32 × Hp) => fT_keepsLetters_L16 (nI r) (nI c) (nI (σ 4 p + sz σ p)) n a.1 a.2) (fun i a => a = (nI (σ 4 p + i), h) ∧ ∀ j, j < i → ltC σ r c (σ 4 p + j) = true) (fun o => o = some (bI (ltP σ p r c), h)) (sz σ p) (by omega) ?_ ?_ 0 (nI (σ 4 p), h) (by omega) ⟨rfl, fun j hj => by omega⟩
  · rintro i a n hi ⟨rfl, hI⟩
    have hq : σ 4 p + i < σ 0 3 := by omega
    have h6 := w.2.2.2.1 p (σ 4 p + i) hp (by omega) (by omega)
    obtain ⟨-, l1, l2, -⟩ := w.2.2.2.2.1 _ hq
    have r1 := w.rw_lt hq
    have r2 := w.cl_lt hq
    rw [h6] at r1 r2
    obtain ⟨a1, a2, a3, a4, a5, a6⟩ := w.2.1 p hp
    simp only [fT_keepsLetters_L16, jn]
    rw [if_neg (fun q => by have := (n_le rfl rfl (by omega) (by omega)).mp q; omega), copyFact_eq (W := 3) (w := 3) w cs hq rfl (by decide), cal_some, copyFact_eq (W := 4) (w := 4) w cs hq rfl (by decide), cal_some, copyFact_eq (W := 2) (w := 2) w cs hq rfl (by decide), cal_some, copyFact_eq (W := 1) (w := 1) w cs hq rfl (by decide), cal_some]
    rw [show cpF σ (σ 4 p + i) 3 = nI (σ 8 (σ 4 p + i)) - 1 from rfl, show cpF σ (σ 4 p + i) 4 = nI (σ 9 (σ 4 p + i)) - 1 from rfl, show cpF σ (σ 4 p + i) 1 = nI (rw_ σ (σ 4 p + i)) from rfl, show cpF σ (σ 4 p + i) 2 = nI (cl_ σ (σ 4 p + i)) from rfl, nI_add, nI_add]
    have d1 := let_neg (σ 8 (σ 4 p + i)) (by omega)
    have d2 := let_neg (σ 9 (σ 4 p + i)) (by omega)
    have d3 := let_dec (σ 8 (σ 4 p + i)) (by omega) (r + rw_ σ (σ 4 p + i)) (by omega)
    have d4 := let_dec (σ 9 (σ 4 p + i)) (by omega) (c + cl_ σ (σ 4 p + i)) (by omega)
    have hB : ∀ (o : RO), (o = fT_keepsLetters_L16 (nI r) (nI c) (nI (σ 4 p + sz σ p)) n (nI (σ 4 p + i) + 1) h ∧ ltC σ r c (σ 4 p + i) = true) ∨ (o = retz 0 h ∧ ltC σ r c (σ 4 p + i) = false) → ((∃ a' : Int32 × Hp, (a' = (nI (σ 4 p + (i + 1)), h) ∧ ∀ j, j < i + 1 → ltC σ r c (σ 4 p + j) = true) ∧ o = fT_keepsLetters_L16 (nI r) (nI c) (nI (σ 4 p + sz σ p)) n a'.1 a'.2) ∨ o = some (bI (ltP σ p r c), h)) := by
      rintro o (⟨e1, e2⟩ | ⟨e1, e2⟩)
      · left
        refine ⟨_, ⟨rfl, fun j hj => ?_⟩, by rw [e1, n_s1]; rfl⟩
        rcases (show j < i ∨ j = i by omega) with q | q
        · exact hI j q
        · rw [q]; exact e2
      · right
        rw [e1, show ltP σ p r c = false from alP_f (f := fun i => ltC σ r c (σ 4 p + i)) hi e2]
        rfl
    apply hB
    by_cases c1 : σ 8 (σ 4 p + i) = 0
    · rw [if_pos (d1.mpr c1)]
      by_cases c2 : σ 9 (σ 4 p + i) = 0
      · rw [if_pos (d2.mpr c2)]
        exact Or.inl ⟨rfl, by simp [ltC, c1, c2]⟩
      · rw [if_neg (fun q => c2 (d2.mp q))]
        by_cases c3 : σ 9 (σ 4 p + i) = c + cl_ σ (σ 4 p + i) + 1
        · rw [if_pos (d4.mpr c3)]
          exact Or.inl ⟨rfl, by simp [ltC, c1, c3]⟩
        · rw [if_neg (fun q => c3 (d4.mp q))]
          exact Or.inr ⟨rfl, by simp [ltC, c2, c3]⟩
    · rw [if_neg (fun q => c1 (d1.mp q))]
      by_cases c0 : σ 8 (σ 4 p + i) = r + rw_ σ (σ 4 p + i) + 1
      · rw [if_pos (d3.mpr c0)]
        by_cases c2 : σ 9 (σ 4 p + i) = 0
        · rw [if_pos (d2.mpr c2)]
          exact Or.inl ⟨rfl, by simp [ltC, c0, c2]⟩
        · rw [if_neg (fun q => c2 (d2.mp q))]
          rw [copyFact_eq (W := 2) (w := 2) w cs hq rfl (by decide), cal_some, show cpF σ (σ 4 p + i) 2 = nI (cl_ σ (σ 4 p + i)) from rfl, nI_add]
          by_cases c3 : σ 9 (σ 4 p + i) = c + cl_ σ (σ 4 p + i) + 1
          · rw [if_pos (d4.mpr c3)]
            exact Or.inl ⟨rfl, by simp [ltC, c0, c3]⟩
          · rw [if_neg (fun q => c3 (d4.mp q))]
            exact Or.inr ⟨rfl, by simp [ltC, c2, c3]⟩
      · rw [if_neg (fun q => c0 (d3.mp q))]
        exact Or.inr ⟨rfl, by simp [ltC, c1, c0]⟩
  · rintro a n ⟨rfl, hI⟩
    simp only [fT_keepsLetters_L16]
    rw [if_pos (Int32.le_refl _), show ltP σ p r c = true from alP_iff.mpr hI]
    rfl
theorem msk_skip (f : Nat → Bool) {a : Nat} : ∀ {b : Nat}, a ≤ b → (∀ s, a ≤ s → s < b → f s = false) → msk f b = msk f a
  | 0, hab, _ => by rw [show a = 0 by omega]
  | b + 1, hab, hf => by
    rcases (show a ≤ b ∨ a = b + 1 by omega) with q | q
    · rw [show msk f (b + 1) = msk f b + (if f b then 2 ^ b else 0) from rfl, hf b q (by omega), if_neg (by decide), Nat.add_zero]
      exact msk_skip f q (fun s h1 h2 => hf s h1 (by omega))
    · rw [q]
theorem msk_or (f : Nat → Bool) (n : Nat) : msk f n ||| 2 ^ n = msk f n + 2 ^ n := by
  rw [Nat.or_comm, Nat.add_comm]
  have := Nat.two_pow_add_eq_or_of_lt (msk_lt f n) 1
  rw [Nat.mul_one] at this
  exact this.symm
theorem dm_at {C r c : Nat} (hc : c < C) : (r * C + c) / C = r ∧ (r * C + c) % C = c := by
  constructor
  · rw [Nat.add_comm, Nat.add_mul_div_right _ _ (by omega), Nat.div_eq_of_lt hc, Nat.zero_add]
  · rw [Nat.add_comm, Nat.add_mul_mod_self_right, Nat.mod_eq_of_lt hc]
theorem spotsOf_eq {p : Nat} (w : WF σ) (cs : CS σ h) (hp : p < σ 0 2) : fT_spotsOf h (nI p) = some (nI (spM σ p), h) := by
  obtain ⟨a1, a2, a3, a4, a5, a6⟩ := w.2.1 p hp
  obtain ⟨b1, b2, b3, b4, b5, -⟩ := w.1
  have row : ∀ (K : Int32 → Hp → RO) (x2 : Int32) (r : Nat), r + σ 1 p ≤ σ 0 0 → fT_spotsOf_L39 K (nI p) x2 (nI (σ 0 1) - nI (σ 2 p)) (nI r) FU (nI (msk (ft σ p) (r * σ 0 1))) 0 h = K (nI (msk (ft σ p) ((r + 1) * σ 0 1))) h := by
    intro K x2 r hr
    have hrc : r * σ 0 1 + σ 0 1 ≤ 9 := by
      have : (r + 1) * σ 0 1 ≤ σ 0 0 * σ 0 1 := Nat.mul_le_mul_right _ (by omega)
      rw [Nat.add_mul, Nat.one_mul] at this
      omega
    refine loopS (fun m (x : Int32 × Int32 × Hp) => fT_spotsOf_L39 K (nI p) x2 (nI (σ 0 1) - nI (σ 2 p)) (nI r) m x.1 x.2.1 x.2.2) (fun c => (nI (msk (ft σ p) (r * σ 0 1 + c)), nI c, h)) _ (σ 0 1 + 1 - σ 2 p) (by omega) ?_ ?_ 0 (by omega)
    · intro c m hc
      obtain ⟨e1, e2⟩ := dm_at (C := σ 0 1) (r := r) (c := c) (by omega)
      have hf : ft σ p (r * σ 0 1 + c) = (mgP σ p r c && ltP σ p r c) := by
        unfold ft
        rw [e1, e2, decide_eq_true hr, decide_eq_true (show c + σ 2 p ≤ σ 0 1 by omega)]
        rfl
      simp only [fT_spotsOf_L39, jn, bnd]
      rw [if_neg (fun q => by have := (sub_dec _ (by omega) _ (by omega) _ (by omega)).mp q; omega), keepsMargins_eq w cs hp (by omega) (by omega), cal_some, if_b0, keepsLetters_eq w cs hp (by omega) (by omega), cal_some, if_b0, n_s1, ← Nat.add_assoc]
      rw [show msk (ft σ p) (r * σ 0 1 + c + 1) = msk (ft σ p) (r * σ 0 1 + c) + (if ft σ p (r * σ 0 1 + c) then 2 ^ (r * σ 0 1 + c) else 0) from rfl, hf]
      cases mgP σ p r c with
      | false => rfl
      | true =>
        cases ltP σ p r c with
        | false => rfl
        | true =>
          rw [cond_true, cond_true, cs.1 1 (by decide), n_mul, nI_add, n_one_shl (by omega), n_or, msk_or]
          rfl
    · intro m
      simp only [fT_spotsOf_L39]
      rw [if_pos ((sub_dec _ (by omega) _ (by omega) _ (by omega)).mpr (by omega))]
      congr 2
      rw [Nat.add_mul, Nat.one_mul]
      refine (msk_skip _ (by omega) (fun s s1 s2 => ?_)).symm
      obtain ⟨e1, e2⟩ := dm_at (C := σ 0 1) (r := r) (c := s - r * σ 0 1) (by omega)
      rw [show r * σ 0 1 + (s - r * σ 0 1) = s by omega] at e1 e2
      unfold ft
      rw [e1, e2, decide_eq_false (show ¬ s - r * σ 0 1 + σ 2 p ≤ σ 0 1 by omega)]
      simp
  unfold fT_spotsOf
  rw [pieceFact_eq (W := 0) (w := 0) w cs hp rfl (by decide), cal_some, pieceFact_eq (W := 1) (w := 1) w cs hp rfl (by decide), bnd, cal_some, bnd, cs.1 0 (by decide), cs.1 1 (by decide)]
  show fT_spotsOf_L30 (nI p) (nI (σ 0 0) - nI (σ 1 p)) (nI (σ 0 1) - nI (σ 2 p)) FU 0 0 h = _
  have q := loopS (fun m (x : Int32 × Int32 × Hp) => fT_spotsOf_L30 (nI p) (nI (σ 0 0) - nI (σ 1 p)) (nI (σ 0 1) - nI (σ 2 p)) m x.1 x.2.1 x.2.2) (fun r => (nI (msk (ft σ p) (r * σ 0 1)), nI r, h)) (some (nI (spM σ p), h)) (σ 0 0 + 1 - σ 1 p) (by omega) (by
    intro r m hr
    simp only [fT_spotsOf_L30]
    rw [if_neg (fun q => by have := (sub_dec _ (by omega) _ (by omega) _ (by omega)).mp q; omega), row _ _ r (by omega), n_s1]) (by
    intro m
    simp only [fT_spotsOf_L30]
    rw [if_pos ((sub_dec _ (by omega) _ (by omega) _ (by omega)).mpr (by omega))]
    unfold spM ret1
    congr 3
    refine (msk_skip _ (Nat.mul_le_mul_right _ (by omega)) (fun s s1 s2 => ?_)).symm
    have e1 : σ 0 0 + 1 - σ 1 p ≤ s / σ 0 1 := (Nat.le_div_iff_mul_le (by omega)).mpr s1
    unfold ft
    rw [decide_eq_false (show ¬ s / σ 0 1 + σ 1 p ≤ σ 0 0 by omega)]
    simp) 0 (by omega)
  dsimp only at q
  rw [Nat.zero_mul] at q
  exact q
end Fits
