/-! GROUPS: pieces of different groups never quarrel -/
section Grp
variable {σ : Sg}
def GRP (σ : Sg) (gr : Nat → Nat) : Prop := (∀ i, i < 5 → gr i ≤ i ∧ gr (gr i) = gr i) ∧ (∀ i j, i < 5 → j < 5 → gr i = gr j → i ≠ j → tkp σ i = true) ∧ ∀ i j, tkp σ i = true → tkp σ j = true → j < i → gr j ≠ gr i → ∀ s t, s < PP σ → t < PP σ → ft σ i s = true → ft σ j t = true → cl σ j t i s = 0
/-- what a piece quarrels with those ahead of it in its group; what a group quarrels -/
def inc (σ : Sg) (gr : Nat → Nat) (i : Nat) (v : Nat → Nat) : Nat := sumN (fun j => if gr j == gr i then cl σ j (v j) i (v i) else 0) i
def inG (σ : Sg) (gr : Nat → Nat) (g i : Nat) : Bool := tkp σ i && gr i == g
def gc (σ : Sg) (gr : Nat → Nat) (g : Nat) (v : Nat → Nat) : Nat := sumN (fun i => if inG σ gr g i then inc σ gr i v else 0) 5
def okg (σ : Sg) (gr : Nat → Nat) (g : Nat) (v : Nat → Nat) : Bool := alP (fun i => !inG σ gr g i || ft σ i (v i)) 5
def lead (σ : Sg) (gr : Nat → Nat) (g : Nat) : Bool := tkp σ g && gr g == g
theorem tkp5 (w : WF σ) {i : Nat} (hi : tkp σ i = true) : i < 5 := by
  have := (tkp_lt hi).1
  have := w.1.2.2.2.2.2.1
  omega
theorem inG_iff {gr : Nat → Nat} {g i : Nat} : inG σ gr g i = true ↔ tkp σ i = true ∧ gr i = g := by
  unfold inG
  rw [Bool.and_eq_true, beq_iff_eq]
theorem lead_iff {gr : Nat → Nat} {g : Nat} : lead σ gr g = true ↔ tkp σ g = true ∧ gr g = g := by
  unfold lead
  rw [Bool.and_eq_true, beq_iff_eq]
theorem lead_of {gr : Nat → Nat} (w : WF σ) (G : GRP σ gr) {g i : Nat} (h : inG σ gr g i = true) : lead σ gr g = true := by
  obtain ⟨h1, h2⟩ := inG_iff.mp h
  have h5 := tkp5 w h1
  have g1 := G.1 i h5
  rw [h2] at g1
  refine lead_iff.mpr ⟨?_, g1.2⟩
  by_cases e : g = i
  · rw [e]; exact h1
  · exact G.2.1 g i (by omega) h5 (by rw [g1.2, h2]) e
theorem okg_iff {gr : Nat → Nat} {g : Nat} {v : Nat → Nat} (w : WF σ) : okg σ gr g v = true ↔ ∀ i, inG σ gr g i = true → ft σ i (v i) = true := by
  unfold okg
  rw [alP_iff]
  constructor
  · intro h1 i hi
    have := h1 i (tkp5 w (inG_iff.mp hi).1)
    rw [hi] at this
    exact this
  · intro h1 i _
    cases hi : inG σ gr g i with
    | false => rfl
    | true => rw [h1 i hi]; rfl
theorem cst_grp {gr : Nat → Nat} {v : Nat → Nat} (w : WF σ) (G : GRP σ gr) (hP : ∀ i, tkp σ i = true → v i < PP σ) (hv : vl σ v = true) : cst σ v = sumN (fun g => gc σ gr g v) 5 := by
  have hv := (vl_iff w).mp hv
  unfold gc
  rw [sumN_swap (fun g i => if inG σ gr g i then inc σ gr i v else 0)]
  unfold cst
  refine sumN_congr (fun i hi => ?_)
  cases ht : tkp σ i with
  | false =>
    rw [if_neg (by decide)]
    have : ∀ g, g < 5 → (if inG σ gr g i then inc σ gr i v else 0) = (fun _ => 0) g := fun g _ => by
      have : inG σ gr g i = false := by unfold inG; rw [ht]; rfl
      rw [this]
      rfl
    rw [sumN_congr this, sumN_zero]
  | true =>
    rw [if_pos rfl]
    have one : ∀ n, gr i < n → sumN (fun g => if inG σ gr g i then inc σ gr i v else 0) n = inc σ gr i v := by
      intro n
      induction n with
      | zero => intro q; omega
      | succ n ih =>
        intro q
        show sumN (fun g => if inG σ gr g i then inc σ gr i v else 0) n + (if inG σ gr n i then inc σ gr i v else 0) = _
        by_cases e : gr i = n
        · have z : ∀ g, g < n → (if inG σ gr g i then inc σ gr i v else 0) = (fun _ => 0) g := fun g hg => by
            rw [if_neg]
            intro q
            have := (inG_iff.mp q).2
            omega
          rw [sumN_congr z, sumN_zero, if_pos (inG_iff.mpr ⟨ht, e⟩), Nat.zero_add]
        · rw [ih (by omega), if_neg (fun q => e (inG_iff.mp q).2), Nat.add_zero]
    rw [one 5 (by have := (G.1 i hi).1; omega)]
    unfold inc
    refine sumN_congr (fun j hj => ?_)
    cases hq : tkp σ j with
    | true =>
      rw [if_pos rfl]
      by_cases e : gr j = gr i
      · rw [if_pos (by rw [e]; exact beq_self_eq_true _), cl_comm]
      · rw [if_neg (fun q => e (beq_iff_eq.mp q)), cl_comm]
        exact G.2.2 i j ht hq hj e _ _ (hP i ht) (hP j hq) (hv i ht) (hv j hq)
    | false =>
      rw [if_neg (by decide), if_neg]
      intro q
      have := G.2.1 j i (by omega) hi (beq_iff_eq.mp q) (by omega)
      rw [hq] at this
      exact absurd this (by decide)
/-- group g quarrels at least l, and this much in some way -/
def Lst (σ : Sg) (gr : Nat → Nat) (g l : Nat) : Prop := (∀ u : Nat → Nat, (∀ i, tkp σ i = true → u i < PP σ) → okg σ gr g u = true → l ≤ gc σ gr g u) ∧ ∃ u : Nat → Nat, (∀ i, tkp σ i = true → u i < PP σ) ∧ okg σ gr g u = true ∧ gc σ gr g u = l
def ind (σ : Sg) (gr : Nat → Nat) (Lg : Nat → Nat) (g : Nat) (u : Nat → Nat) : Nat := if lead σ gr g then (if okg σ gr g u && gc σ gr g u == Lg g then 1 else 0) else 1
def Lsum (σ : Sg) (gr : Nat → Nat) (Lg : Nat → Nat) : Nat := sumN (fun g => if lead σ gr g then Lg g else 0) 5
theorem prN_one {f : Nat → Nat} : ∀ {n}, (∀ i, i < n → f i = 1) → prN f n = 1
  | 0, _ => rfl
  | n + 1, h => by
    show prN f n * f n = 1
    rw [prN_one (fun i hi => h i (by omega)), h n (by omega)]
theorem prN_zero {f : Nat → Nat} : ∀ {n i}, i < n → f i = 0 → prN f n = 0
  | n + 1, i, hi, h => by
    show prN f n * f n = 0
    by_cases e : i = n
    · rw [← e, h, Nat.mul_zero]
    · rw [prN_zero (by omega) h, Nat.zero_mul]
theorem sum_eq_iff {f g : Nat → Nat} : ∀ {n}, (∀ i, i < n → f i ≤ g i) → (sumN g n = sumN f n ↔ ∀ i, i < n → g i = f i)
  | 0, _ => ⟨fun _ i hi => by omega, fun _ => rfl⟩
  | n + 1, h => by
    have ih := sum_eq_iff (n := n) (fun i hi => h i (by omega))
    have hn := h n (by omega)
    have hle : ∀ m, m ≤ n → sumN f m ≤ sumN g m := by
      intro m
      induction m with
      | zero => intro _; exact Nat.le_refl _
      | succ m ihm =>
        intro hm
        have a := ihm (by omega)
        have b := h m (by omega)
        show sumN f m + f m ≤ sumN g m + g m
        omega
    have h2 := hle n (Nat.le_refl _)
    show sumN g n + g n = sumN f n + f n ↔ _
    constructor
    · intro q i hi
      have e1 : sumN g n = sumN f n := by omega
      rcases (show i < n ∨ i = n by omega) with z | z
      · exact ih.mp e1 i z
      · rw [z]; omega
    · intro q
      rw [ih.mpr (fun i hi => q i (by omega)), q n (by omega)]
theorem gc_no {gr : Nat → Nat} {g : Nat} {v : Nat → Nat} (w : WF σ) (G : GRP σ gr) (h : lead σ gr g = false) : gc σ gr g v = 0 := by
  unfold gc
  have : ∀ i, i < 5 → (if inG σ gr g i then inc σ gr i v else 0) = (fun _ => 0) i := fun i _ => by
    rw [if_neg]
    intro q
    rw [lead_of w G q] at h
    exact absurd h (by decide)
  rw [sumN_congr this, sumN_zero]
theorem good_ind {gr Lg : Nat → Nat} {u : Nat → Nat} (w : WF σ) (G : GRP σ gr) (hL : ∀ g, lead σ gr g = true → Lst σ gr g (Lg g)) (hP : ∀ i, tkp σ i = true → u i < PP σ) : (if vl σ u && cst σ u == Lsum σ gr Lg then 1 else 0) = prN (fun g => ind σ gr Lg g u) 5 := by
  have l5 : ∀ g, lead σ gr g = true → g < 5 := fun g hg => tkp5 w (lead_iff.mp hg).1
  cases hv : vl σ u with
  | false =>
    rw [Bool.false_and, if_neg (by decide)]
    have nv : ¬ ∀ i, tkp σ i = true → ft σ i (u i) = true := fun q => by
      rw [(vl_iff w).mpr q] at hv
      exact absurd hv (by decide)
    obtain ⟨i, hi, hf⟩ : ∃ i, tkp σ i = true ∧ ¬ ft σ i (u i) = true := by
      apply Classical.byContradiction
      intro q
      apply nv
      intro i hi
      apply Classical.byContradiction
      intro q2
      exact q ⟨i, hi, q2⟩
    have hl := lead_of w G (inG_iff.mpr ⟨hi, rfl⟩)
    refine (prN_zero (l5 _ hl) ?_).symm
    unfold ind
    rw [if_pos hl, if_neg]
    intro q
    rw [Bool.and_eq_true] at q
    exact hf ((okg_iff w).mp q.1 i (inG_iff.mpr ⟨hi, rfl⟩))
  | true =>
    have hv2 := (vl_iff w).mp hv
    have ok : ∀ g, okg σ gr g u = true := fun g => (okg_iff w).mpr (fun i hi => hv2 i (inG_iff.mp hi).1)
    rw [Bool.true_and, cst_grp w G hP hv]
    have key : (sumN (fun g => gc σ gr g u) 5 = Lsum σ gr Lg) ↔ ∀ g, g < 5 → gc σ gr g u = if lead σ gr g then Lg g else 0 := sum_eq_iff (fun g _ => by
      by_cases hl : lead σ gr g = true
      · rw [if_pos hl]; exact (hL g hl).1 u hP (ok g)
      · rw [if_neg hl]; exact Nat.zero_le _)
    by_cases c : sumN (fun g => gc σ gr g u) 5 = Lsum σ gr Lg
    · rw [if_pos (beq_iff_eq.mpr c)]
      refine (prN_one (fun g hg => ?_)).symm
      unfold ind
      by_cases hl : lead σ gr g = true
      · have := key.mp c g hg
        rw [if_pos hl] at this
        rw [if_pos hl, ok g, this, beq_self_eq_true]
        rfl
      · rw [if_neg hl]
    · rw [if_neg (fun q => c (beq_iff_eq.mp q))]
      have : ¬ ∀ g, lead σ gr g = true → gc σ gr g u = Lg g := fun q => c (key.mpr (fun g _ => by
        by_cases hl : lead σ gr g = true
        · rw [if_pos hl]; exact q g hl
        · rw [if_neg hl]; exact gc_no w G (by simpa using hl)))
      obtain ⟨g, hl, hne⟩ : ∃ g, lead σ gr g = true ∧ ¬ gc σ gr g u = Lg g := by
        apply Classical.byContradiction
        intro q
        apply this
        intro g hg
        apply Classical.byContradiction
        intro q2
        exact q ⟨g, hg, q2⟩
      refine (prN_zero (l5 _ hl) ?_).symm
      unfold ind
      rw [if_pos hl, if_neg]
      intro q
      rw [Bool.and_eq_true] at q
      exact hne (beq_iff_eq.mp q.2)
end Grp
