/-! THE BEST LAYINGS BY GROUPS -/
section Best
variable {σ : Sg} {gr Lg : Nat → Nat}
/-- on places of the sheet -/
def inP (σ : Sg) (u : Nat → Nat) : Prop := ∀ i, tkp σ i = true → u i < PP σ
theorem gc_congr {g : Nat} {u u' : Nat → Nat} (h : ∀ j, gr j = g → u j = u' j) : gc σ gr g u = gc σ gr g u' := by
  unfold gc
  refine sumN_congr (fun i _ => ?_)
  by_cases q : inG σ gr g i = true
  · rw [if_pos q, if_pos q]
    have hg := (inG_iff.mp q).2
    unfold inc
    refine sumN_congr (fun j _ => ?_)
    by_cases e : (gr j == gr i) = true
    · rw [if_pos e, if_pos e, h i hg, h j (by rw [beq_iff_eq.mp e, hg])]
    · rw [if_neg e, if_neg e]
  · rw [if_neg q, if_neg q]
theorem alP_congr {f g : Nat → Bool} : ∀ {n}, (∀ i, i < n → f i = g i) → alP f n = alP g n
  | 0, _ => rfl
  | n + 1, h => by
    unfold alP
    rw [alP_congr (fun i hi => h i (by omega)), h n (by omega)]
theorem okg_congr {g : Nat} {u u' : Nat → Nat} (h : ∀ j, gr j = g → u j = u' j) : okg σ gr g u = okg σ gr g u' := by
  unfold okg
  refine alP_congr (fun i _ => ?_)
  cases q : inG σ gr g i with
  | false => rfl
  | true => rw [h i (inG_iff.mp q).2]
theorem ind_congr (g : Nat) (u u' : Nat → Nat) (h : ∀ j, gr j = g → u j = u' j) : ind σ gr Lg g u = ind σ gr Lg g u' := by
  unfold ind
  rw [okg_congr h, gc_congr h]
theorem vl_congr {u u' : Nat → Nat} (h : ∀ i, tkp σ i = true → u i = u' i) : vl σ u = vl σ u' := by
  unfold vl
  refine alP_congr (fun i _ => ?_)
  cases q : tkp σ i with
  | false => rfl
  | true => rw [h i q]
theorem cst_congr {u u' : Nat → Nat} (h : ∀ i, tkp σ i = true → u i = u' i) : cst σ u = cst σ u' := by
  unfold cst
  refine sumN_congr (fun i _ => ?_)
  cases q : tkp σ i with
  | false => rfl
  | true =>
    rw [if_pos rfl, if_pos rfl]
    refine sumN_congr (fun j _ => ?_)
    cases q2 : tkp σ j with
    | false => rfl
    | true => rw [if_pos rfl, if_pos rfl, h i q, h j q2]
/-- each way on places of the sheet has a number -/
theorem num_of (w : WF σ) {u : Nat → Nat} (hu : inP σ u) : ∃ n, n < tot σ ∧ ∀ i, tkp σ i = true → nth σ n i = u i := by
  have cm : Cm (PP σ) (tkp σ) 5 0 (fun _ => 0) (fun i => if tkp σ i then u i else 0) := by
    refine ⟨fun j => ?_, fun j _ _ hj => ?_⟩
    · cases q : tkp σ j with
      | true => left; exact ⟨Nat.zero_le _, by have := tkp5 w q; omega, rfl⟩
      | false =>
        right
        dsimp only
        rw [q, if_neg (by decide)]
    · dsimp only
      rw [if_pos hj]
      exact hu j hj
  obtain ⟨n, h1, h2⟩ := asg_of cm
  rw [tn_mm] at h1
  refine ⟨n, h1, fun i hi => ?_⟩
  unfold nth
  rw [h2]
  exact if_pos hi
theorem nth_in (w : WF σ) {n : Nat} (hn : n < tot σ) : inP σ (nth σ n) := fun i hi => by
  have cm := asg_cm (P := PP σ) (sel := tkp σ) (r := 5) (i := 0) (v := fun _ => 0) (n := n) (by rw [tn_mm]; exact hn)
  exact cm.2 i (Nat.zero_le _) (by have := tkp5 w hi; omega) hi
/-- the ways of the groups put together -/
def comb (gr : Nat → Nat) (U : Nat → Nat → Nat) : Nat → Nat := fun i => U (gr i) i
theorem comb_best (w : WF σ) (G : GRP σ gr) (hL : ∀ g, lead σ gr g = true → Lst σ gr g (Lg g)) (U : Nat → Nat → Nat) (hU : ∀ g, lead σ gr g = true → inP σ (U g) ∧ okg σ gr g (U g) = true ∧ gc σ gr g (U g) = Lg g) : inP σ (comb gr U) ∧ vl σ (comb gr U) = true ∧ cst σ (comb gr U) = Lsum σ gr Lg := by
  have l0 : ∀ i, tkp σ i = true → lead σ gr (gr i) = true := fun i hi => lead_of w G (inG_iff.mpr ⟨hi, rfl⟩)
  have cg : ∀ g j, gr j = g → comb gr U j = U g j := fun g j hj => by unfold comb; rw [hj]
  have p : inP σ (comb gr U) := fun i hi => (hU _ (l0 i hi)).1 i hi
  have v : vl σ (comb gr U) = true := (vl_iff w).mpr (fun i hi => by
    have := (okg_iff w).mp (hU _ (l0 i hi)).2.1 i (inG_iff.mpr ⟨hi, rfl⟩)
    exact this)
  refine ⟨p, v, ?_⟩
  rw [cst_grp w G p v]
  unfold Lsum
  refine sumN_congr (fun g _ => ?_)
  by_cases hl : lead σ gr g = true
  · rw [if_pos hl, gc_congr (cg g)]
    exact (hU g hl).2.2
  · rw [if_neg hl]
    exact gc_no w G (by simpa using hl)
theorem le_cst (w : WF σ) (G : GRP σ gr) (hL : ∀ g, lead σ gr g = true → Lst σ gr g (Lg g)) {u : Nat → Nat} (hP : inP σ u) (hv : vl σ u = true) : Lsum σ gr Lg ≤ cst σ u := by
  rw [cst_grp w G hP hv]
  have ok : ∀ g, okg σ gr g u = true := fun g => (okg_iff w).mpr (fun i hi => (vl_iff w).mp hv i (inG_iff.mp hi).1)
  have : ∀ n, sumN (fun g => if lead σ gr g then Lg g else 0) n ≤ sumN (fun g => gc σ gr g u) n := by
    intro n
    induction n with
    | zero => exact Nat.le_refl _
    | succ n ih =>
      show sumN (fun g => if lead σ gr g then Lg g else 0) n + (if lead σ gr n then Lg n else 0) ≤ sumN (fun g => gc σ gr g u) n + gc σ gr n u
      by_cases hl : lead σ gr n = true
      · have := (hL n hl).1 u hP (ok n)
        rw [if_pos hl]
        omega
      · rw [if_neg hl]
        omega
  exact this 5
/-- the best ways of one group -/
def bst (σ : Sg) (gr Lg : Nat → Nat) (g : Nat) (u : Nat → Nat) : Prop := inP σ u ∧ okg σ gr g u = true ∧ gc σ gr g u = Lg g
theorem ext_best (w : WF σ) (G : GRP σ gr) (hL : ∀ g, lead σ gr g = true → Lst σ gr g (Lg g)) {g : Nat} {u : Nat → Nat} (hl : lead σ gr g = true) (hu : bst σ gr Lg g u) : ∃ n, n < tot σ ∧ gd σ (Lsum σ gr Lg) n = true ∧ ∀ i, tkp σ i = true → gr i = g → nth σ n i = u i := by
  have ex : ∀ g', ∃ u' : Nat → Nat, lead σ gr g' = true → bst σ gr Lg g' u' := fun g' => by
    by_cases q : lead σ gr g' = true
    · obtain ⟨u', a, b, c⟩ := (hL g' q).2
      exact ⟨u', fun _ => ⟨a, b, c⟩⟩
    · exact ⟨fun _ => 0, fun q2 => absurd q2 q⟩
  obtain ⟨U, hU⟩ := Classical.axiomOfChoice ex
  have hU2 : ∀ g', lead σ gr g' = true → inP σ ((fun g' => if g' = g then u else U g') g') ∧ okg σ gr g' ((fun g' => if g' = g then u else U g') g') = true ∧ gc σ gr g' ((fun g' => if g' = g then u else U g') g') = Lg g' := fun g' hg' => by
    dsimp only
    by_cases e : g' = g
    · rw [if_pos e, e]
      exact hu
    · rw [if_neg e]
      exact hU g' hg'
  obtain ⟨c1, c2, c3⟩ := comb_best w G hL (fun g' => if g' = g then u else U g') hU2
  obtain ⟨n, n1, n2⟩ := num_of w c1
  refine ⟨n, n1, gd_iff.mpr ⟨by rw [vl_congr n2]; exact c2, by rw [cst_congr n2]; exact c3⟩, fun i hi hg => ?_⟩
  rw [n2 i hi]
  unfold comb
  rw [hg]
  dsimp only
  rw [if_pos rfl]
theorem bst_of (w : WF σ) (G : GRP σ gr) (hL : ∀ g, lead σ gr g = true → Lst σ gr g (Lg g)) {n g : Nat} (hn : n < tot σ) (hg : gd σ (Lsum σ gr Lg) n = true) (hl : lead σ gr g = true) : bst σ gr Lg g (nth σ n) := by
  obtain ⟨v, c⟩ := gd_iff.mp hg
  have p := nth_in w hn
  have gi := good_ind w G hL p
  rw [v, c, beq_self_eq_true, if_pos (by rfl)] at gi
  have l5 : g < 5 := tkp5 w (lead_iff.mp hl).1
  have : ind σ gr Lg g (nth σ n) ≠ 0 := fun q => by
    rw [prN_zero l5 q] at gi
    omega
  unfold ind at this
  rw [if_pos hl] at this
  by_cases z : (okg σ gr g (nth σ n) && gc σ gr g (nth σ n) == Lg g) = true
  · rw [Bool.and_eq_true, beq_iff_eq] at z
    exact ⟨p, z.1, z.2⟩
  · rw [if_neg z] at this
    exact absurd rfl this
/-- how many best layings go on from what is laid: each group by itself -/
theorem cnt_grp (w : WF σ) (G : GRP σ gr) (r i : Nat) (v : Nat → Nat) (hr : i + r ≤ 5) : SI (PP σ) (tkp σ) r i v (fun u => prN (fun g => ind σ gr Lg g u) 5) = prN (fun g => SI (PP σ) (inG σ gr g) r i v (ind σ gr Lg g)) 5 :=
  SI_grp gr (fun g u => ind σ gr Lg g u) (fun g u u' h => ind_congr g u u' h) r i v (fun j _ h2 _ => by have := (G.1 j (by omega)).1; omega)
theorem cnt_tot (w : WF σ) (G : GRP σ gr) (hL : ∀ g, lead σ gr g = true → Lst σ gr g (Lg g)) : cntP (gd σ (Lsum σ gr Lg)) (tot σ) = prN (fun g => SI (PP σ) (inG σ gr g) 5 0 (fun _ => 0) (ind σ gr Lg g)) 5 := by
  rw [← cnt_grp w G 5 0 (fun _ => 0) (by decide), SI_num, tn_mm, cntP_sum]
  refine sumN_congr (fun n hn => ?_)
  exact good_ind w G hL (nth_in w hn)
/-- the reference's least is the groups' sum -/
theorem least_is (w : WF σ) (G : GRP σ gr) (hL : ∀ g, lead σ gr g = true → Lst σ gr g (Lg g)) {x1 : Int32} {h : Hp} {L : Nat} (f : FN σ x1 h (tot σ) L) : L = Lsum σ gr Lg := by
  have ex : ∀ g', ∃ u' : Nat → Nat, lead σ gr g' = true → bst σ gr Lg g' u' := fun g' => by
    by_cases q : lead σ gr g' = true
    · obtain ⟨u', a, b, c⟩ := (hL g' q).2
      exact ⟨u', fun _ => ⟨a, b, c⟩⟩
    · exact ⟨fun _ => 0, fun q2 => absurd q2 q⟩
  obtain ⟨U, hU⟩ := Classical.axiomOfChoice ex
  obtain ⟨c1, c2, c3⟩ := comb_best w G hL U hU
  obtain ⟨n, n1, n2⟩ := num_of w c1
  have h1 := f.2.1 n n1 (by rw [vl_congr n2]; exact c2)
  rw [cst_congr n2, c3] at h1
  have hc : cst σ (comb gr U) ≤ 7200 := by
    have := cst_rank w (d := fun a => comb gr U (ti σ a)) (v := comb gr U) (fun i hi => by rw [ti_rk w hi])
    rw [this]
    exact cR_le w _ (Nat.le_refl _)
  rcases f.2.2.1 with q | ⟨m, m1, m2⟩
  · omega
  · obtain ⟨v, c⟩ := gd_iff.mp m2
    have := le_cst w G hL (nth_in w m1) v
    omega
end Best
