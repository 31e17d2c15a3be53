/-! ALL PLACES: INVERTED, UNSEEN; MANY -/
section Unseen
variable {σ : Sg} {h : Hp}
/-- how many are sure on place x, and their line -/
abbrev nx (σ : Sg) (h : Hp) (x : Nat) : Nat := cntP (sP h x) (σ 0 3)
abbrev lx (σ : Sg) (h : Hp) (x : Nat) : Nat → Nat := lnS (sP h x) (σ 10) (σ 0 3)
theorem nx_fr {h' : Hp} (f : h' 12 = h 12) : nx σ h' = nx σ h := by
  funext x
  unfold nx
  rw [sP_fr f]
theorem lx_fr {h' : Hp} (f : h' 12 = h 12) : lx σ h' = lx σ h := by
  funext x
  unfold lx
  rw [sP_fr f]
theorem line_at {h' : Hp} {x : Nat} (w : WF σ) (cs : CS σ h) (sf : SF σ h) (f : ∀ k, k ≠ 27 → h' k = h k) (hx : x < 9) : ∃ h2, fU_lineUp h' (nI x) = some (nI (nx σ h x), h2) ∧ (∀ k, k ≠ 27 → h2 k = h k) ∧ ∀ i, i < nx σ h x → h2 27 i = nI (lx σ h x i) := by
  have cs' : CS σ h' := cs.keep (fun k hk => f k (by omega))
  have e1 : nx σ h' = nx σ h := nx_fr (f 12 (by decide))
  have e2 : lx σ h' = lx σ h := lx_fr (f 12 (by decide))
  obtain ⟨h2, a, b, c⟩ := lineUp_eq (x := x) w cs' (SU w (SF_fr (fun k k1 k2 => f k (by omega)) sf) hx)
  exact ⟨h2, by rw [a]; show some (nI (nx σ h' x), h2) = _; rw [e1], fun k hk => (b k hk).trans (f k hk), fun i hi => by rw [← e1] at hi; rw [c i hi]; show nI (lx σ h' x i) = _; rw [e2]⟩
theorem invPairs_eq (w : WF σ) (cs : CS σ h) (sf : SF σ h) : ∃ h', fU_invertedPairs h = some (nI (sumN (fun x => pr σ (nx σ h x) (lx σ h x)) (PP σ)), h') ∧ ∀ k, k ≠ 27 → h' k = h k := by
  have hP := PP_le w
  unfold fU_invertedPairs
  refine loopK (fun n (a : Int32 × Int32 × Hp) => fU_invertedPairs_L4 n a.1 a.2.1 a.2.2) (fun x a => a.1 = nI (sumN (fun x => pr σ (nx σ h x) (lx σ h x)) x) ∧ a.2.1 = nI x ∧ ∀ k, k ≠ 27 → a.2.2 k = h k) (fun o => ∃ h', o = some (nI (sumN (fun x => pr σ (nx σ h x) (lx σ h x)) (PP σ)), h') ∧ ∀ k, k ≠ 27 → h' k = h k) (PP σ) (by omega) ?_ ?_ 0 (0, 0, h) (by omega) ⟨rfl, rfl, fun _ _ => rfl⟩
  · rintro x ⟨y, z, h'⟩ n hx ⟨e1, e2, e3⟩ hn
    dsimp only at e1 e2 e3
    subst e1 e2
    have cs' : CS σ h' := cs.keep (fun k hk => e3 k (by omega))
    obtain ⟨h2, l1, l2, l3⟩ := line_at (x := x) w cs sf e3 (by omega)
    have cs2 : CS σ h2 := cs.keep (fun k hk => l2 k (by omega))
    have key := hn (nI (sumN (fun x => pr σ (nx σ h x) (lx σ h x)) x + pr σ (nx σ h x) (lx σ h x)), nI (x + 1), h2) ⟨rfl, rfl, l2⟩
    dsimp only at key ⊢
    rw [fU_invertedPairs_L4, places_eq cs', cal_some, if_neg (fun z => by have := (nI_leI (a := σ 0 0 * σ 0 1) (by unfold PP at hP; omega) (by omega)).mp z; unfold PP at hx; omega), l1, cal_some, invLine_eq w cs2 (LN_of w sf (by omega)) l3, cal_some, bnd_eq, nI_add, n_s1]
    exact key
  · rintro ⟨y, z, h'⟩ n ⟨e1, e2, e3⟩
    dsimp only at e1 e2 e3
    subst e1 e2
    have cs' : CS σ h' := cs.keep (fun k hk => e3 k (by omega))
    dsimp only
    rw [fU_invertedPairs_L4, places_eq cs', cal_some, if_pos (show nI (σ 0 0 * σ 0 1) ≤ nI (PP σ) from Int32.le_refl _)]
    exact ⟨h', rfl, e3⟩
/-- the reference's sure copies are the class's -/
def SR (σ : Sg) (hC h : Hp) : Prop := ∀ x c, x < 9 → c < σ 0 3 → (h 52 c = nI (2 ^ x) ↔ sP hC x c = true)
theorem order_at {hC h' : Hp} {x : Nat} (w : WF σ) (ms : MS σ h) (sf : SF σ hC) (sr : SR σ hC h) (f : FrO h h') (hx : x < 9) : ∃ h2, fM_findOrder h' (nI x) = some (0, h2) ∧ FrO h h2 ∧ h2 28 34 = nI (nx σ hC x) ∧ ∀ i, i < nx σ hC x → h2 54 i = nI (lx σ hC x i) := by
  obtain ⟨h2, a, b, c, d⟩ := findOrder_eq (P := sP hC x) w (f.ms ms) hx (fun c hc => by rw [f.1 52 (by decide) (by decide)]; exact sr x c hx hc) (SU w sf hx)
  exact ⟨h2, a, ⟨fun k k1 k2 => (b.1 k k1 k2).trans (f.1 k k1 k2), fun j hj => (b.2 j hj).trans (f.2 j hj)⟩, c, d⟩
theorem minverted_eq {hC : Hp} (w : WF σ) (ms : MS σ h) (sf : SF σ hC) (sr : SR σ hC h) : ∃ h', fM_inverted_L9 FU 0 0 h = some (nI (sumN (fun x => pr σ (nx σ hC x) (lx σ hC x)) (PP σ)), h') ∧ FrO h h' := by
  have hP := PP_le w
  refine loopK (fun n (a : Int32 × Int32 × Hp) => fM_inverted_L9 n a.1 a.2.1 a.2.2) (fun x a => a.1 = nI (sumN (fun x => pr σ (nx σ hC x) (lx σ hC x)) x) ∧ a.2.1 = nI x ∧ FrO h a.2.2) (fun o => ∃ h', o = some (nI (sumN (fun x => pr σ (nx σ hC x) (lx σ hC x)) (PP σ)), h') ∧ FrO h h') (PP σ) (by omega) ?_ ?_ 0 (0, 0, h) (by omega) ⟨rfl, rfl, fun _ _ _ => rfl, fun _ _ => rfl⟩
  · rintro x ⟨y, z, h'⟩ n hx ⟨e1, e2, e3⟩ hn
    dsimp only at e1 e2 e3
    subst e1 e2
    obtain ⟨h2, l1, l2, l3, l4⟩ := order_at (x := x) w ms sf sr e3 (by omega)
    have key := hn (nI (sumN (fun x => pr σ (nx σ hC x) (lx σ hC x)) x + pr σ (nx σ hC x) (lx σ hC x)), nI (x + 1), h2) ⟨rfl, rfl, l2⟩
    dsimp only at key ⊢
    rw [fM_inverted_L9, mplaces_eq (e3.ms ms), cal_some, if_neg (fun z => by have := (nI_leI (a := σ 0 0 * σ 0 1) (by unfold PP at hP; omega) (by omega)).mp z; unfold PP at hx; omega), l1, cal_some, minv24 w (l2.ms ms) (LN_of w sf (by omega)) l3 l4, n_s1]
    exact key
  · rintro ⟨y, z, h'⟩ n ⟨e1, e2, e3⟩
    dsimp only at e1 e2 e3
    subst e1 e2
    dsimp only
    rw [fM_inverted_L9, mplaces_eq (e3.ms ms), cal_some, if_pos (show nI (σ 0 0 * σ 0 1) ≤ nI (PP σ) from Int32.le_refl _)]
    exact ⟨h', rfl, e3⟩
theorem ag_inverted : Agr (InvX SF) (fun h => fX_inverted h) (fun h => fM_inverted h) := by
  rintro h ⟨σ, w, ms, cs, kp, ho, hx⟩
  have st : ST σ h := ⟨w, ms, cs, kp, ho⟩
  obtain ⟨h1, s1, s2, s3, sf, st1⟩ := both st hx 0
  obtain ⟨h2, i1, i2⟩ := invPairs_eq w st1.2.2.1 sf
  have st2 := st1.fr27 i2
  have sf2 : SF σ h2 := SF_fr (fun k k1 k2 => i2 k (by omega)) sf
  obtain ⟨h3, L, m1, m2, fn, st3, m3, sf3⟩ := both2 st2 (by rw [i2 3 (by decide)]; exact s3) sf2 (-1)
  obtain ⟨h4, j1, j2⟩ := minverted_eq (hC := h2) w st3.2.1 sf2 (fun x c hx hc => SU2 w sf2 fn hx hc)
  rw [nx_fr (i2 12 (by decide)), lx_fr (i2 12 (by decide))] at j1
  dsimp only
  unfold fX_inverted fM_inverted
  exact ⟨_, h2, h4, by rw [s1, cal_some, i1, cal_some]; rfl, by rw [m1, cal_some, j1], (st3.fro j2).inv (Or.inr ⟨by rw [j2.1 3 (by decide) (by decide)]; exact m3, SF_fr (fun k k1 k2 => j2.1 k (by omega) (by omega)) sf3⟩)⟩
theorem placesWith_eq {h0 : Hp} (j : Nat) (w : WF σ) (cs : CS σ h0) (sf : SF σ h0) (f : ∀ k, k ≠ 27 → h k = h0 k) (hj : j < 1000) : ∃ h', fU_placesWith h (nI j) = some (nI (cntP (fun x => nx σ h0 x == j) (PP σ)), h') ∧ ∀ k, k ≠ 27 → h' k = h0 k := by
  have hP := PP_le w
  unfold fU_placesWith
  refine loopK (fun n (a : Int32 × Int32 × Hp) => fU_placesWith_L4 (nI j) n a.1 a.2.1 a.2.2) (fun x a => a.1 = nI (cntP (fun x => nx σ h0 x == j) x) ∧ a.2.1 = nI x ∧ ∀ k, k ≠ 27 → a.2.2 k = h0 k) (fun o => ∃ h', o = some (nI (cntP (fun x => nx σ h0 x == j) (PP σ)), h') ∧ ∀ k, k ≠ 27 → h' k = h0 k) (PP σ) (by omega) ?_ ?_ 0 (0, 0, h) (by omega) ⟨rfl, rfl, f⟩
  · rintro x ⟨y, z, h'⟩ n hx ⟨e1, e2, e3⟩ hn
    dsimp only at e1 e2 e3
    subst e1 e2
    have cs' : CS σ h' := cs.keep (fun k hk => e3 k (by omega))
    obtain ⟨h2, l1, l2, l3⟩ := line_at (x := x) w cs sf e3 (by omega)
    have n5 : nx σ h0 x ≤ 5 := SU w sf (by omega)
    have key := hn (nI (cntP (fun x => nx σ h0 x == j) (x + 1)), nI (x + 1), h2) ⟨rfl, rfl, l2⟩
    dsimp only at key ⊢
    rw [fU_placesWith_L4, places_eq cs', cal_some, if_neg (fun z => by have := (nI_leI (a := σ 0 0 * σ 0 1) (by unfold PP at hP; omega) (by omega)).mp z; unfold PP at hx; omega), l1, cal_some, jn_eq, n_s1]
    by_cases q : nx σ h0 x = j
    · rw [if_pos (by rw [q]), n_s1]
      rw [cntP_t (f := fun x => nx σ h0 x == j) (beq_iff_eq.mpr q)] at key
      exact key
    · rw [if_neg (fun z => q ((nI_eq (by omega) (by omega)).mp z))]
      rw [cntP_f (f := fun x => nx σ h0 x == j) (beq_false_of_ne q)] at key
      exact key
  · rintro ⟨y, z, h'⟩ n ⟨e1, e2, e3⟩
    dsimp only at e1 e2 e3
    subst e1 e2
    have cs' : CS σ h' := cs.keep (fun k hk => e3 k (by omega))
    dsimp only
    rw [fU_placesWith_L4, places_eq cs', cal_some, if_pos (show nI (σ 0 0 * σ 0 1) ≤ nI (PP σ) from Int32.le_refl _)]
    exact ⟨h', rfl, e3⟩
theorem munseen_K {Q : RO → Prop} {K : Int32 → Int32 → Int32 → Hp → RO} {hC : Hp} {x1 : Int32} (w : WF σ) (ms : MS σ h) (sf : SF σ hC) (sr : SR σ hC h) (hK : ∀ h', FrO h h' → Q (K (nI (cntP (fun x => !(nx σ hC x == 0)) (PP σ))) (nI (cntP (fun x => nx σ hC x == 1) (PP σ))) (nI (cntP (fun x => nx σ hC x == 2) (PP σ))) h')) : Q (fM_unseen_L26 K x1 FU 0 0 0 0 h) := by
  have hP := PP_le w
  refine loopK (fun n (a : Int32 × Int32 × Int32 × Int32 × Hp) => fM_unseen_L26 K x1 n a.1 a.2.1 a.2.2.1 a.2.2.2.1 a.2.2.2.2) (fun x a => a.1 = nI (cntP (fun x => !(nx σ hC x == 0)) x) ∧ a.2.1 = nI (cntP (fun x => nx σ hC x == 1) x) ∧ a.2.2.1 = nI (cntP (fun x => nx σ hC x == 2) x) ∧ a.2.2.2.1 = nI x ∧ FrO h a.2.2.2.2) Q (PP σ) (by omega) ?_ ?_ 0 (0, 0, 0, 0, h) (by omega) ⟨rfl, rfl, rfl, rfl, fun _ _ _ => rfl, fun _ _ => rfl⟩
  · rintro x ⟨y1, y2, y3, z, h'⟩ n hx ⟨e1, e2, e3, e4, e5⟩ hn
    dsimp only at e1 e2 e3 e4 e5
    subst e1 e2 e3 e4
    obtain ⟨h2, l1, l2, l3, l4⟩ := order_at (x := x) w ms sf sr e5 (by omega)
    have n5 : nx σ hC x ≤ 5 := SU w sf (by omega)
    have key := hn (nI (cntP (fun x => !(nx σ hC x == 0)) (x + 1)), nI (cntP (fun x => nx σ hC x == 1) (x + 1)), nI (cntP (fun x => nx σ hC x == 2) (x + 1)), nI (x + 1), h2) ⟨rfl, rfl, rfl, rfl, l2⟩
    dsimp only at key ⊢
    rw [fM_unseen_L26, mplaces_eq (e5.ms ms), cal_some, if_neg (fun z => by have := (nI_leI (a := σ 0 0 * σ 0 1) (by unfold PP at hP; omega) (by omega)).mp z; unfold PP at hx; omega), l1, cal_some]
    simp only [jn_eq, bnd_eq]
    rw [l3, n_s1, n_s1, n_s1, n_s1, nI_z, nI_z, nI_z]
    rw [show cntP (fun x => !(nx σ hC x == 0)) (x + 1) = cntP (fun x => !(nx σ hC x == 0)) x + (if (!(nx σ hC x == 0)) = true then 1 else 0) from rfl, show cntP (fun x => nx σ hC x == 1) (x + 1) = cntP (fun x => nx σ hC x == 1) x + (if (nx σ hC x == 1) = true then 1 else 0) from rfl, show cntP (fun x => nx σ hC x == 2) (x + 1) = cntP (fun x => nx σ hC x == 2) x + (if (nx σ hC x == 2) = true then 1 else 0) from rfl] at key
    by_cases q0 : nx σ hC x = 0
    · rw [q0] at key ⊢
      rw [if_pos (show nI 0 ≤ 0 by decide), if_neg (show ¬ nI 0 = 1 by decide), if_neg (show ¬ nI 0 = 2 by decide)]
      exact key
    · rw [if_neg (fun z => by have := (n_le (Y := 0) (b := 0) rfl rfl (by omega) (by omega)).mp z; omega)]
      rw [beq_false_of_ne q0] at key
      by_cases q1 : nx σ hC x = 1
      · rw [q1] at key ⊢
        rw [if_pos (show nI 1 = 1 from rfl), if_neg (show ¬ nI 1 = 2 by decide)]
        exact key
      · rw [if_neg (show ¬ nI (nx σ hC x) = 1 from fun z => q1 ((n_eq (Y := 1) (b := 1) rfl rfl (by omega) (by omega)).mp z))]
        rw [beq_false_of_ne q1] at key
        by_cases q2 : nx σ hC x = 2
        · rw [q2] at key ⊢
          rw [if_pos (show nI 2 = 2 from rfl)]
          exact key
        · rw [if_neg (show ¬ nI (nx σ hC x) = 2 from fun z => q2 ((n_eq (Y := 2) (b := 2) rfl rfl (by omega) (by omega)).mp z))]
          rw [beq_false_of_ne q2] at key
          exact key
  · rintro ⟨y1, y2, y3, z, h'⟩ n ⟨e1, e2, e3, e4, e5⟩
    dsimp only at e1 e2 e3 e4 e5
    subst e1 e2 e3 e4
    dsimp only
    rw [fM_unseen_L26, mplaces_eq (e5.ms ms), cal_some, if_pos (show nI (σ 0 0 * σ 0 1) ≤ nI (PP σ) from Int32.le_refl _)]
    exact hK h' e5
end Unseen
