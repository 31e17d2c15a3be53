/-! THE REFERENCE SEARCHES: what one way of laying costs -/
/-- the piece of a rank -/
def tpos (sel : Nat → Bool) (a : Nat) : Nat → Nat
  | 0 => 0
  | n + 1 => if sel n && cntP sel n == a then n else tpos sel a n
theorem tpos_eq {sel : Nat → Bool} {i : Nat} (hi : sel i = true) : ∀ {n}, i < n → tpos sel (cntP sel i) n = i
  | n + 1, h => by
    unfold tpos
    by_cases e : i = n
    · subst e
      rw [hi, beq_self_eq_true]
      rfl
    · rw [if_neg, tpos_eq hi (by omega)]
      intro q
      rw [Bool.and_eq_true, beq_iff_eq] at q
      exact e (cntP_inj hi q.1 q.2.symm)
/-- the way of laying with a number, whether it may be, what it quarrels -/
def nth (σ : Sg) (n : Nat) : Nat → Nat := asg (PP σ) (tkp σ) 5 0 (fun _ => 0) n
def tot (σ : Sg) : Nat := PP σ ^ mm σ
def vl (σ : Sg) (v : Nat → Nat) : Bool := alP (fun i => !tkp σ i || ft σ i (v i)) 5
def cst (σ : Sg) (v : Nat → Nat) : Nat := sumN (fun i => if tkp σ i then sumN (fun j => if tkp σ j then cl σ i (v i) j (v j) else 0) i else 0) 5
section Find
variable {σ : Sg} {h : Hp}
def ti (σ : Sg) (a : Nat) : Nat := tpos (tkp σ) a 5
theorem ti_rk (w : WF σ) {i : Nat} (hi : tkp σ i = true) : ti σ (rk σ i) = i := tpos_eq hi (by have := (tkp_lt hi).1; have := w.1.2.2.2.2.2.1; omega)
theorem tn_mm : tn (tkp σ) 5 0 = mm σ := by
  have e : 0 + tn (tkp σ) 5 0 = cntP (tkp σ) 5 := tn_cnt (tkp σ) 5 0
  unfold mm
  omega
/-- what the ranks below a quarrel -/
def cR (σ : Sg) (d : Nat → Nat) (a : Nat) : Nat := sumN (fun a => sumN (fun b => cl σ (ti σ a) (d a) (ti σ b) (d b)) a) a
theorem cst_rank (w : WF σ) {d v : Nat → Nat} (hv : ∀ i, tkp σ i = true → v i = d (rk σ i)) : cst σ v = cR σ d (mm σ) := by
  unfold cst cR mm
  rw [← sum_rank]
  refine sumN_congr (fun i _ => ?_)
  cases hi : tkp σ i with
  | false => rfl
  | true =>
    rw [if_pos rfl, if_pos rfl, ← sum_rank]
    refine sumN_congr (fun j _ => ?_)
    cases hj : tkp σ j with
    | false => rfl
    | true =>
      rw [if_pos rfl, if_pos rfl, hv i hi, hv j hj]
      rw [show ti σ (cntP (tkp σ) i) = i from ti_rk w hi, show ti σ (cntP (tkp σ) j) = j from ti_rk w hj]
theorem cR_mono (d : Nat → Nat) {a b : Nat} (h : a ≤ b) : cR σ d a ≤ cR σ d b := by
  unfold cR
  rw [show b = a + (b - a) by omega, sumN_app]
  omega
theorem ti_lt (w : WF σ) {a : Nat} (ha : a < mm σ) : tkp σ (ti σ a) = true ∧ rk σ (ti σ a) = a := by
  obtain ⟨i, i1, i2, i3⟩ := cntP_ex (show a < cntP (tkp σ) 5 from ha)
  have : ti σ a = i := by rw [← i3]; exact ti_rk w i2
  rw [this]
  exact ⟨i2, i3⟩
theorem cR_le (w : WF σ) (d : Nat → Nat) {a : Nat} (ha : a ≤ mm σ) : cR σ d a ≤ 7200 := by
  have hm := mm_le (σ := σ)
  have h1 : cR σ d a ≤ a * 1440 := sumN_le (fun b hb => by
    have h2 : sumN (fun c => cl σ (ti σ b) (d b) (ti σ c) (d c)) b ≤ b * 288 := sumN_le (fun c hc => cl_le w _ _ (tkp_lt (ti_lt w (by omega)).1).1 (tkp_lt (ti_lt w (by omega)).1).1)
    have : b * 288 ≤ 5 * 288 := Nat.mul_le_mul_right _ (by omega)
    omega)
  have : a * 1440 ≤ 5 * 1440 := Nat.mul_le_mul_right _ (by omega)
  omega
theorem vl_iff {v : Nat → Nat} (w : WF σ) : vl σ v = true ↔ ∀ i, tkp σ i = true → ft σ i (v i) = true := by
  unfold vl
  rw [alP_iff]
  constructor
  · intro h1 i hi
    have := h1 i (by have := (tkp_lt hi).1; have := w.1.2.2.2.2.2.1; omega)
    rw [hi] at this
    exact this
  · intro h1 i _
    cases hi : tkp σ i with
    | false => rfl
    | true => rw [h1 i hi]; rfl
/-- the reference's tables -/
def FS (σ : Sg) (h0 h : Hp) : Prop := FrS h0 h ∧ PA σ h ∧ PM σ h ∧ PQ σ h
theorem find105 {K : Int32 → Hp → RO} {d : Nat → Nat} {x1 : Int32} {a : Nat} (w : WF σ) {h0 : Hp} (fs : FS σ h0 h) (hd : ∀ x, x < mm σ → h 51 x = nI (d x) ∧ d x < PP σ) (ha : a < mm σ) (hv : ∀ b, b ≤ a → ft σ (ti σ b) (d b) = true) (v : Nat) : fM_find_L105 K x1 1 (nI a) FU (nI v) 0 h = K (nI (v + sumN (fun b => cl σ (ti σ a) (d a) (ti σ b) (d b)) a)) h := by
  have hm := mm_le (σ := σ)
  have hP := PP_le w
  refine loopS (fun m (x : Int32 × Int32 × Hp) => fM_find_L105 K x1 1 (nI a) m x.1 x.2.1 x.2.2) (fun b => (nI (v + sumN (fun b => cl σ (ti σ a) (d a) (ti σ b) (d b)) b), nI b, h)) _ a (by omega) ?_ ?_ 0 (by omega)
  · intro b m hb
    obtain ⟨a1, a2⟩ := hd a ha
    obtain ⟨b1, b2⟩ := hd b (by omega)
    obtain ⟨t1, t2⟩ := ti_lt w ha
    obtain ⟨t3, t4⟩ := ti_lt w (show b < mm σ by omega)
    have hlt : ti σ b < ti σ a := by
      rcases Nat.lt_trichotomy (ti σ b) (ti σ a) with q | q | q
      · exact q
      · rw [q] at t4; omega
      · have := cntP_lt q t1
        unfold rk at t2 t4
        omega
    have hq := fs.2.2.2 (ti σ a) (ti σ b) t1 t3 hlt (d a) (d b) a2 b2
    rw [t2, t4] at hq
    unfold qv at hq
    rw [hv a (Nat.le_refl _), hv b (by omega)] at hq
    simp only [fM_find_L105, bnd]
    rw [if_neg (fun q => by have := (n_le rfl rfl (by omega) (by omega)).mp q; omega), if_neg (show ¬ (1 : Int32) = 0 by decide), rd_at a 5 rfl rfl (by omega), a1, rd_at b 5 rfl rfl (by omega), b1]
    have ix : ((45 : Int32) * (9 * nI a + nI (d a)) + 9 * nI b) + nI (d b) = nI (45 * (9 * a + d a) + 9 * b + d b) := by
      rw [n_ix' (Mm := 9) (m := 9) rfl rfl, show (45 : Int32) = nI 45 from rfl, show (9 : Int32) = nI 9 from rfl, n_mul, n_mul, nI_add, nI_add]
    rw [rd_at _ 2025 rfl ix (by omega), hq, n_s1, nI_add, Nat.add_assoc]
    rfl
  · intro m
    simp only [fM_find_L105]
    rw [if_pos (Int32.le_refl _)]
theorem find70 {K : Int32 → Int32 → Hp → RO} {Q : RO → Prop} {d v : Nat → Nat} {x1 : Int32} {L : Nat} (w : WF σ) {h0 : Hp} (fs : FS σ h0 h) (hd : ∀ x, x < mm σ → h 51 x = nI (d x) ∧ d x < PP σ) (hv : ∀ i, tkp σ i = true → v i = d (rk σ i)) (hL : h 28 30 = nI L) (hL2 : L ≤ 1000000) (h1 : ∀ c, ¬ (vl σ v = true ∧ cst σ v ≤ L) → Q (K 0 c h)) (h2 : vl σ v = true → cst σ v ≤ L → Q (K 1 (nI (cst σ v)) h)) : Q (fM_find_L70 K x1 FU 1 0 0 h) := by
  have hm := mm_le (σ := σ)
  have hP := PP_le w
  have vt : ∀ b, b < mm σ → v (ti σ b) = d b := fun b hb => by
    obtain ⟨t1, t2⟩ := ti_lt w hb
    rw [hv _ t1, t2]
  have vok : (vl σ v = true) ↔ ∀ b, b < mm σ → ft σ (ti σ b) (d b) = true := by
    rw [vl_iff w]
    constructor
    · intro q b hb
      rw [← vt b hb]
      exact q _ (ti_lt w hb).1
    · intro q i hi
      have := q (rk σ i) (rk_lt w hi)
      rw [ti_rk w hi, ← hv i hi] at this
      exact this
  have ce := cst_rank w hv
  refine loopK (fun n (a : Int32 × Int32 × Int32 × Hp) => fM_find_L70 K x1 n a.1 a.2.1 a.2.2.1 a.2.2.2) (fun r a => (a.1 = 1 ∧ a.2.1 = nI (cR σ d r) ∧ (∀ b, b < r → ft σ (ti σ b) (d b) = true) ∧ cR σ d r ≤ L ∧ a.2.2.1 = nI r ∧ a.2.2.2 = h) ∨ (a.1 = 0 ∧ a.2.2.2 = h ∧ ¬ (vl σ v = true ∧ cst σ v ≤ L))) Q (mm σ) (by omega) ?_ ?_ 0 (1, 0, 0, h) (by omega) (Or.inl ⟨rfl, rfl, fun b hb => by omega, Nat.zero_le _, rfl, rfl⟩)
  · rintro r ⟨x, y, z, h'⟩ n hr hI hn
    dsimp only at hI
    show Q (fM_find_L70 K x1 (n + 1) x y z h')
    simp only [fM_find_L70, jn]
    rcases hI with ⟨rfl, rfl, e1, e2, rfl, rfl⟩ | ⟨rfl, rfl, e1⟩
    · obtain ⟨a1, a2⟩ := hd r hr
      obtain ⟨t1, t2⟩ := ti_lt w hr
      have hpm := fs.2.2.1 (ti σ r) t1 (d r) a2
      rw [t2] at hpm
      rw [if_neg (fun q => by rw [fs.2.1.1] at q; have := (n_le rfl rfl (by omega) (by omega)).mp q; omega), if_neg (show ¬ (1 : Int32) = 0 by decide), rd_at r 5 rfl rfl (by omega), a1, rdz_at (9 * r + d r) 45 rfl (n_ix' (Mm := 9) rfl rfl) (by omega), hpm]
      cases hf : ft σ (ti σ r) (d r) with
      | false =>
        have nok : ¬ (vl σ v = true ∧ cst σ v ≤ L) := fun q => by
          have := vok.mp q.1 r hr
          rw [hf] at this
          exact absurd this (by decide)
        have e : ∀ (K : Int32 → Hp → RO) (y : Int32), fM_find_L105 K x1 (bI false) (nI r) FU y 0 h' = K y h' := by
          intro K y
          obtain ⟨N, hN⟩ : ∃ N, FU = N + 1 := ⟨99999, rfl⟩
          rw [hN]
          simp only [fM_find_L105]
          split
          · rfl
          · rw [if_pos (show bI false = 0 from rfl)]
        rw [e, if_pos (show bI false = 0 from rfl)]
        exact hn (0, _, _, h') (Or.inr ⟨rfl, rfl, nok⟩)
      | true =>
        have hv2 : ∀ b, b ≤ r → ft σ (ti σ b) (d b) = true := fun b hb => by
          rcases (show b < r ∨ b = r by omega) with q | q
          · exact e1 b q
          · rw [q]; exact hf
        have hcR : cR σ d (r + 1) = cR σ d r + sumN (fun b => cl σ (ti σ r) (d r) (ti σ b) (d b)) r := rfl
        have hc1 := cR_le w d (show r + 1 ≤ mm σ by omega)
        rw [show bI true = 1 from rfl, find105 w fs hd hr hv2, ← hcR, if_neg (show ¬ (1 : Int32) = 0 by decide), n_s1]
        by_cases c : cR σ d (r + 1) ≤ L
        · rw [if_neg (fun q => by rw [hL] at q; have := (n_lt rfl rfl (by omega) (by omega)).mp q; omega)]
          exact hn (1, _, _, h') (Or.inl ⟨rfl, rfl, fun b hb => hv2 b (by omega), c, rfl, rfl⟩)
        · rw [if_pos (by rw [hL]; exact (n_lt rfl rfl (by omega) (by omega)).mpr (by omega))]
          refine hn (0, _, _, h') (Or.inr ⟨rfl, rfl, fun q => ?_⟩)
          have := cR_mono (σ := σ) d (show r + 1 ≤ mm σ by omega)
          omega
    · split
      · exact h1 _ e1
      · rw [if_pos rfl]
        exact h1 _ e1
  · rintro ⟨x, y, z, h'⟩ n hI
    dsimp only at hI
    show Q (fM_find_L70 K x1 (n + 1) x y z h')
    simp only [fM_find_L70, jn]
    rcases hI with ⟨rfl, rfl, e1, e2, rfl, rfl⟩ | ⟨rfl, rfl, e1⟩
    · rw [if_pos (by rw [fs.2.1.1]; exact Int32.le_refl _), ← ce]
      exact h2 (vok.mpr e1) (by rw [ce]; exact e2)
    · split
      · exact h1 _ e1
      · rw [if_pos rfl]
        exact h1 _ e1
end Find
