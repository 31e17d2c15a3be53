/-! A GROUP'S WAYS, AS THE CLASS COUNTS THEM -/
section Lead
variable {σ : Sg} {gr Lg : Nat → Nat} {g : Nat}
abbrev v0 : Nat → Nat := fun _ => 0
theorem inG_b (w : WF σ) (G : GRP σ gr) {j : Nat} (hj : inG σ gr g j = true) : g ≤ j ∧ j < 5 := by
  obtain ⟨a, b⟩ := inG_iff.mp hj
  have j5 := tkp5 w a
  have := (G.1 j j5).1
  omega
theorem gc_cg (w : WF σ) (G : GRP σ gr) {u u' : Nat → Nat} (hu : ∀ j, inG σ gr g j = true → u j = u' j) : gc σ gr g u = gc σ gr g u' := by
  unfold gc
  refine sumN_congr (fun i hi => ?_)
  by_cases q : inG σ gr g i = true
  · rw [if_pos q, if_pos q]
    obtain ⟨ti, hg⟩ := inG_iff.mp q
    unfold inc
    refine sumN_congr (fun j hj => ?_)
    by_cases e : (gr j == gr i) = true
    · have e2 := beq_iff_eq.mp e
      rw [if_pos e, if_pos e, hu i q, hu j (inG_iff.mpr ⟨G.2.1 j i (by omega) hi e2 (by omega), by rw [e2, hg]⟩)]
    · rw [if_neg e, if_neg e]
  · rw [if_neg q, if_neg q]
theorem okg_cg {u u' : Nat → Nat} (hu : ∀ j, inG σ gr g j = true → u j = u' j) : okg σ gr g u = okg σ gr g u' := by
  unfold okg
  refine alP_congr (fun i _ => ?_)
  cases q : inG σ gr g i with
  | false => rfl
  | true => rw [hu i q]
theorem gc_tc (w : WF σ) (G : GRP σ gr) (h5 : g < 5) (u : Nat → Nat) : gc σ gr g u = tc σ gr g (5 - g) g u := by
  rw [← tc_gc u (5 - g) g (by omega)]
  have : ∀ i, i < g → (if inG σ gr g i then inc σ gr i u else 0) = (fun _ => 0) i := fun i hi => by
    rw [if_neg]
    intro q
    have := (inG_b w G q).1
    omega
  rw [sumN_congr this, sumN_zero, Nat.zero_add]
theorem okg_okt (w : WF σ) (G : GRP σ gr) {u : Nat → Nat} (hu : ∀ j, inG σ gr g j = true → u j < PP σ) : okg σ gr g u = true ↔ okt σ gr g (opM σ) (5 - g) g u = true := by
  rw [okg_iff w, okt_iff]
  constructor
  · intro a j _ _ hj
    rw [opM_bit (inG_iff.mp hj).1, decide_eq_true (hu j hj), a j hj]
    rfl
  · intro a j hj
    have b := inG_b w G hj
    have := a j b.1 (by omega) hj
    rw [opM_bit (inG_iff.mp hj).1, decide_eq_true (hu j hj)] at this
    exact this
/-- a way of this group alone -/
def rs (σ : Sg) (gr : Nat → Nat) (g : Nat) (u : Nat → Nat) : Nat → Nat := fun j => if inG σ gr g j then u j else 0
theorem rs_in {u : Nat → Nat} {j : Nat} (hj : inG σ gr g j = true) : rs σ gr g u j = u j := if_pos hj
theorem rs_Cm (w : WF σ) (G : GRP σ gr) {u : Nat → Nat} (hu : ∀ j, inG σ gr g j = true → u j < PP σ) : Cm (PP σ) (inG σ gr g) (5 - g) g v0 (rs σ gr g u) := by
  refine ⟨fun j => ?_, fun j _ _ hj => by rw [rs_in hj]; exact hu j hj⟩
  cases q : inG σ gr g j with
  | true =>
    have := inG_b w G q
    exact Or.inl ⟨this.1, by omega, rfl⟩
  | false =>
    right
    unfold rs
    rw [q]
    rfl
theorem inc_le (w : WF σ) (G : GRP σ gr) {i : Nat} (hi : tkp σ i = true) (u : Nat → Nat) : inc σ gr i u ≤ 1440 := by
  rw [inc_ld (v := u) (fun _ _ => rfl)]
  exact ld_le w G (Nat.le_refl _) (tkp5 w hi) hi
theorem gc_le (w : WF σ) (G : GRP σ gr) (u : Nat → Nat) : gc σ gr g u ≤ 7200 := by
  have : gc σ gr g u ≤ 5 * 1440 := sumN_le (fun i _ => by
    by_cases q : inG σ gr g i = true
    · rw [if_pos q]; exact inc_le w G (inG_iff.mp q).1 u
    · rw [if_neg q]; omega)
  omega
theorem Cm_in (w : WF σ) (G : GRP σ gr) {u : Nat → Nat} (cu : Cm (PP σ) (inG σ gr g) (5 - g) g v0 u) : inP σ u := fun j _ => by
  rcases cu.1 j with z | z
  · exact cu.2 j z.1 z.2.1 z.2.2
  · have := PP_le w
    rw [z]
    show 0 < PP σ
    omega
theorem WQ_bst (w : WF σ) (G : GRP σ gr) (h5 : g < 5) {u : Nat → Nat} (q : WQ σ gr g (opM σ) (Lg g) g v0 u) : bst σ gr Lg g u := by
  have p := Cm_in w G q.1
  refine ⟨p, (okg_okt w G (fun j hj => p j (inG_iff.mp hj).1)).mpr q.2.1, ?_⟩
  rw [gc_tc w G h5]
  exact q.2.2
theorem bst_WQ (w : WF σ) (G : GRP σ gr) (h5 : g < 5) {u : Nat → Nat} (q : bst σ gr Lg g u) : WQ σ gr g (opM σ) (Lg g) g v0 (rs σ gr g u) := by
  have p : ∀ j, inG σ gr g j = true → u j < PP σ := fun j hj => q.1 j (inG_iff.mp hj).1
  have e : ∀ j, inG σ gr g j = true → u j = rs σ gr g u j := fun j hj => (rs_in hj).symm
  refine ⟨rs_Cm w G p, (okg_okt w G (fun j hj => by rw [rs_in hj]; exact p j hj)).mp ?_, ?_⟩
  · rw [← okg_cg e]; exact q.2.1
  · rw [← gc_tc w G h5, ← gc_cg w G e]; exact q.2.2
theorem Lst_of (w : WF σ) (G : GRP σ gr) (h5 : g < 5) {l : Nat} (hl : l < 1000000) (h1 : ∀ u, Cm (PP σ) (inG σ gr g) (5 - g) g v0 u → okt σ gr g (opM σ) (5 - g) g u = true → l ≤ 0 + tc σ gr g (5 - g) g u) (h2 : l = 1000000 ∨ ∃ u, Cm (PP σ) (inG σ gr g) (5 - g) g v0 u ∧ okt σ gr g (opM σ) (5 - g) g u = true ∧ l = 0 + tc σ gr g (5 - g) g u) : Lst σ gr g l := by
  refine ⟨fun u hu ok => ?_, ?_⟩
  · have p : ∀ j, inG σ gr g j = true → u j < PP σ := fun j hj => hu j (inG_iff.mp hj).1
    have e : ∀ j, inG σ gr g j = true → u j = rs σ gr g u j := fun j hj => (rs_in hj).symm
    have := h1 (rs σ gr g u) (rs_Cm w G p) ((okg_okt w G (fun j hj => by rw [rs_in hj]; exact p j hj)).mp (by rw [← okg_cg e]; exact ok))
    rw [← gc_tc w G h5, ← gc_cg w G e] at this
    omega
  · rcases h2 with z | ⟨u, a, b, c⟩
    · omega
    · have p := Cm_in w G a
      exact ⟨u, p, (okg_okt w G (fun j hj => p j (inG_iff.mp hj).1)).mpr b, by rw [gc_tc w G h5]; omega⟩
theorem Lst_uni {l l' : Nat} (a : Lst σ gr g l) (b : Lst σ gr g l') : l = l' := by
  obtain ⟨u, u1, u2, u3⟩ := a.2
  obtain ⟨v, w1, w2, w3⟩ := b.2
  have := a.1 v w1 w2
  have := b.1 u u1 u2
  omega
/-- the least that a group quarrels -/
noncomputable def Lm (σ : Sg) (gr : Nat → Nat) (g : Nat) : Nat := Classical.epsilon (Lst σ gr g)
theorem Lm_eq {l : Nat} (a : Lst σ gr g l) : Lm σ gr g = l := Lst_uni (Classical.epsilon_spec (p := Lst σ gr g) ⟨l, a⟩) a
/-- each one that takes part has a spot -/
theorem some_way (w : WF σ) (ha : alP (allO σ) 5 = true) : ∃ u, inP σ u ∧ vl σ u = true := by
  have ex : ∀ i, ∃ s, tkp σ i = true → s < PP σ ∧ ft σ i s = true := fun i => by
    by_cases t : tkp σ i = true
    · have := alP_iff.mp ha i (tkp5 w t)
      unfold allO at this
      rw [t] at this
      have ne : spM σ i ≠ 0 := fun z => by rw [z] at this; exact absurd this (by decide)
      apply Classical.byContradiction
      intro no
      apply ne
      refine nat_ext (n := 9) (spM_lt w i) (by decide) (fun s _ => ?_)
      rw [Nat.zero_testBit]
      unfold spM
      rw [msk_bit]
      cases q1 : decide (s < σ 0 0 * σ 0 1) with
      | false => rfl
      | true =>
        cases q2 : ft σ i s with
        | false => rfl
        | true => exact absurd ⟨s, fun _ => ⟨of_decide_eq_true q1, q2⟩⟩ no
    · exact ⟨0, fun z => absurd z t⟩
  obtain ⟨u, hu⟩ := Classical.axiomOfChoice ex
  exact ⟨u, fun i hi => (hu i hi).1, (vl_iff w).mpr (fun i hi => (hu i hi).2)⟩
/-- how many best ways a group has -/
theorem W_SI (w : WF σ) (G : GRP σ gr) (hl : lead σ gr g = true) : wS σ gr g (opM σ) (Lg g) g v0 = SI (PP σ) (inG σ gr g) 5 0 v0 (ind σ gr Lg g) := by
  have h5 := tkp5 w (lead_iff.mp hl).1
  have e := SI_skip (P := PP σ) (sel := inG σ gr g) (v := v0) (F := ind σ gr Lg g) g 0 (5 - g) (fun j _ h2 => by
    cases q : inG σ gr g j with
    | false => rfl
    | true => have := (inG_b w G q).1; omega)
  rw [show g + (5 - g) = 5 by omega, Nat.zero_add] at e
  rw [e]
  unfold wS
  refine SI_extC (fun u cu => ?_)
  have p := Cm_in w G cu
  have ok := okg_okt (u := u) (g := g) w G (fun j hj => p j (inG_iff.mp hj).1)
  unfold wF ind
  rw [if_pos hl, gc_tc w G h5, Bool.eq_iff_iff.mpr ok]
end Lead
