/-! THE CLASS LAYS A PIECE -/
section Lay
variable {σ : Sg} {gr : Nat → Nat} {h : Hp}
theorem fo_spec (g : Nat) : ∀ r q, q ≤ fo gr g q r ∧ fo gr g q r ≤ q + r ∧ (∀ j, q ≤ j → j < fo gr g q r → gr j ≠ g) ∧ (fo gr g q r < q + r → gr (fo gr g q r) = g)
  | 0, q => ⟨Nat.le_refl _, Nat.le_refl _, fun j h1 h2 => by exact absurd h2 (by show ¬ j < q; omega), fun z => by exact absurd z (by show ¬ q < q + 0; omega)⟩
  | r + 1, q => by
    have ih := fo_spec g r (q + 1)
    unfold fo
    by_cases e : gr q = g
    · rw [if_pos e]
      exact ⟨Nat.le_refl _, by omega, fun j h1 h2 => by omega, fun _ => e⟩
    · rw [if_neg e]
      refine ⟨by omega, by omega, fun j h1 h2 => ?_, fun z => ih.2.2.2 (by omega)⟩
      by_cases z : j = q
      · rw [z]; exact e
      · exact ih.2.2.1 j (by omega) h2
theorem fol_spec {p : Nat} (hp : p < 5) : p < fol gr p ∧ fol gr p ≤ 5 ∧ (∀ j, p < j → j < fol gr p → gr j ≠ gr p) ∧ (fol gr p < 5 → gr (fol gr p) = gr p) := by
  obtain ⟨a, b, c, d⟩ := fo_spec (gr := gr) (gr p) (4 - p) (p + 1)
  exact ⟨a, by unfold fol; omega, fun j h1 h2 => c j h1 h2, fun z => d (by unfold fol at z; omega)⟩
/-- what piece q on spot t quarrels with those of its group ahead of p -/
def ld (σ : Sg) (gr : Nat → Nat) (v : Nat → Nat) (p q t : Nat) : Nat := sumN (fun j => if gr j == gr q then cl σ j (v j) q t else 0) p
def LD (σ : Sg) (gr : Nat → Nat) (v : Nat → Nat) (p : Nat) (h : Hp) : Prop := ∀ q t, p ≤ q → q < 5 → gr q = gr p → t < PP σ → ft σ q t = true → h 22 (45 * p + 9 * q + t) = nI (ld σ gr v p q t)
theorem ld_le (w : WF σ) (G : GRP σ gr) {v : Nat → Nat} {p q t : Nat} (hpq : p ≤ q) (hq : q < 5) (tq : tkp σ q = true) : ld σ gr v p q t ≤ 1440 := by
  have : ld σ gr v p q t ≤ p * 288 := sumN_le (fun j hj => by
    by_cases e : (gr j == gr q) = true
    · rw [if_pos e]
      exact cl_le w _ _ (tkp_lt (G.2.1 j q (by omega) hq (beq_iff_eq.mp e) (by omega))).1 (tkp_lt tq).1
    · rw [if_neg e]; omega)
  omega
theorem ld_st {v : Nat → Nat} {p q s t : Nat} (hp : p < 5) (hq : gr q = gr p) : ld σ gr (sv v p s) (fol gr p) q t = ld σ gr v p q t + cl σ p s q t := by
  obtain ⟨f1, f2, f3, -⟩ := fol_spec (gr := gr) hp
  unfold ld
  have e : fol gr p = (p + 1) + (fol gr p - (p + 1)) := by omega
  rw [e, sumN_app]
  have z : ∀ i, i < fol gr p - (p + 1) → (fun t_1 => (fun j => if gr j == gr q then cl σ j (sv v p s j) q t else 0) (p + 1 + t_1)) i = (fun _ => 0) i := fun i hi => by
    dsimp only
    rw [if_neg]
    intro y
    exact f3 (p + 1 + i) (by omega) (by omega) ((beq_iff_eq.mp y).trans hq)
  rw [sumN_congr z, sumN_zero]
  show sumN (fun j => if gr j == gr q then cl σ j (sv v p s j) q t else 0) p + (if gr p == gr q then cl σ p (sv v p s p) q t else 0) + 0 = _
  rw [if_pos (by rw [hq]; exact beq_self_eq_true _), sv_s, Nat.add_zero]
  congr 1
  refine sumN_congr (fun j hj => ?_)
  rw [sv_n (by omega)]
theorem lay68 {K : Hp → RO} {Q : RO → Prop} {p q s n5 : Nat} {x1 x2 x3 x4 : Int32} (w : WF σ) (g3 : h 3 3 = nI (PP σ)) (hp : p < n5) (hn : n5 ≤ q) (hq : q < 5) (hs : s < PP σ) (hK : ∀ h', (∀ k, k ≠ 22 → h' k = h k) → (∀ x, (x < 45 * n5 + 9 * q ∨ 45 * n5 + 9 * q + 9 ≤ x) → h' 22 x = h 22 x) → (∀ t, t < PP σ → h' 22 (45 * n5 + 9 * q + t) = h 22 (45 * p + 9 * q + t) + h 26 (((5 * p + q) * 9 + s) * 9 + t)) → Q (K h')) : Q (fS_lay_L68 K x1 x2 x3 x4 (nI (45 * p + 9 * q)) (nI (45 * n5 + 9 * q)) (nI (((5 * p + q) * 9 + s) * 9)) FU 0 h) := by
  have hP := PP_le w
  refine loopK (fun n (x : Int32 × Hp) => fS_lay_L68 K x1 x2 x3 x4 (nI (45 * p + 9 * q)) (nI (45 * n5 + 9 * q)) (nI (((5 * p + q) * 9 + s) * 9)) n x.1 x.2) (fun t x => x.1 = nI t ∧ (∀ k, k ≠ 22 → x.2 k = h k) ∧ (∀ x', (x' < 45 * n5 + 9 * q ∨ 45 * n5 + 9 * q + 9 ≤ x') → x.2 22 x' = h 22 x') ∧ ∀ t', t' < t → x.2 22 (45 * n5 + 9 * q + t') = h 22 (45 * p + 9 * q + t') + h 26 (((5 * p + q) * 9 + s) * 9 + t')) Q (PP σ) (by omega) ?_ ?_ 0 (0, h) (by omega) ⟨rfl, fun _ _ => rfl, fun _ _ => rfl, fun t ht => by omega⟩
  · rintro t ⟨x, h'⟩ n ht ⟨e1, e2, e3, e4⟩ hn'
    dsimp only at e1 e2 e3 e4
    subst e1
    show Q (fS_lay_L68 K x1 x2 x3 x4 (nI (45 * p + 9 * q)) (nI (45 * n5 + 9 * q)) (nI (((5 * p + q) * 9 + s) * 9)) (n + 1) (nI t) h')
    rw [fS_lay_L68, e2 3 (by decide), g3, if_neg (fun z => by have := (nI_leI (by omega) (by omega)).mp z; omega), rd_at (45 * p + 9 * q + t) 225 rfl (nI_add _ _) (by omega), rd_at (((5 * p + q) * 9 + s) * 9 + t) 2025 rfl (nI_add _ _) (by omega), wr_at (45 * n5 + 9 * q + t) 225 rfl (nI_add _ _) (by omega), n_s1, e3 (45 * p + 9 * q + t) (by omega), e2 26 (by decide)]
    refine hn' (nI (t + 1), up h' 22 (45 * n5 + 9 * q + t) (h 22 (45 * p + 9 * q + t) + h 26 (((5 * p + q) * 9 + s) * 9 + t))) ⟨rfl, fun k hk => (up_ne h' hk _ _).trans (e2 k hk), fun x' hx => ?_, fun t' ht' => ?_⟩
    · show up h' 22 (45 * n5 + 9 * q + t) (h 22 (45 * p + 9 * q + t) + h 26 (((5 * p + q) * 9 + s) * 9 + t)) 22 x' = _
      rw [up_k, upd_ne (by omega)]
      exact e3 x' hx
    · show up h' 22 (45 * n5 + 9 * q + t) (h 22 (45 * p + 9 * q + t) + h 26 (((5 * p + q) * 9 + s) * 9 + t)) 22 (45 * n5 + 9 * q + t') = _
      rw [up_k]
      by_cases e : t' = t
      · rw [e, upd_same]
      · rw [upd_ne (by omega)]; exact e4 t' (by omega)
  · rintro ⟨x, h'⟩ n ⟨e1, e2, e3, e4⟩
    dsimp only at e1 e2 e3 e4
    subst e1
    show Q (fS_lay_L68 K x1 x2 x3 x4 (nI (45 * p + 9 * q)) (nI (45 * n5 + 9 * q)) (nI (((5 * p + q) * 9 + s) * 9)) (n + 1) (nI (PP σ)) h')
    rw [fS_lay_L68, e2 3 (by decide), g3, if_pos (Int32.le_refl _)]
    exact hK h' e2 e3 e4
theorem lay_K {Q : RO → Prop} {v : Nat → Nat} {p s : Nat} (w : WF σ) (G : GRP σ gr) (gh : GH σ gr h) (g3 : h 3 3 = nI (PP σ)) (hp : tkp σ p = true) (hs : s < PP σ) (hf : ft σ p s = true) (l : LD σ gr v p h) (hK : ∀ h', (∀ k, k ≠ 22 → h' k = h k) → (∀ x, x < 45 * fol gr p ∨ 45 * fol gr p + 45 ≤ x → h' 22 x = h 22 x) → LD σ gr (sv v p s) (fol gr p) h' → Q (some (0, h'))) : Q (fS_lay h (nI p) (nI s)) := by
  have hP := PP_le w
  have p5 := tkp5 w hp
  obtain ⟨f1, f2, f3, f4⟩ := fol_spec (gr := gr) p5
  unfold fS_lay
  rw [rd_at p 5 rfl rfl p5, (gh.1 p p5).2]
  refine loopK (fun n (x : Int32 × Hp) => fS_lay_L10 (nI p) (nI s) (nI (fol gr p)) n x.1 x.2) (fun q x => fol gr p ≤ q ∧ x.1 = nI q ∧ (∀ k, k ≠ 22 → x.2 k = h k) ∧ (∀ x', x' < 45 * fol gr p ∨ 45 * fol gr p + 45 ≤ x' → x.2 22 x' = h 22 x') ∧ ∀ q' t, fol gr p ≤ q' → q' < q → gr q' = gr p → t < PP σ → ft σ q' t = true → x.2 22 (45 * fol gr p + 9 * q' + t) = nI (ld σ gr v p q' t + cl σ p s q' t)) Q 5 (by omega) ?_ ?_ (fol gr p) (nI (fol gr p), h) f2 ⟨Nat.le_refl _, rfl, fun _ _ => rfl, fun _ _ => rfl, fun q' t h1 h2 => by omega⟩
  · rintro q ⟨x, h'⟩ n hq ⟨e0, e1, e2, e3, e4⟩ hn
    dsimp only at e0 e1 e2 e3 e4
    subst e1
    show Q (fS_lay_L10 (nI p) (nI s) (nI (fol gr p)) (n + 1) (nI q) h')
    have lq := (G.1 q hq).1
    have lp := (G.1 p p5).1
    rw [fS_lay_L10, if_neg (fun z => by have := (n_le (X := 5) (a := 5) rfl rfl (by omega) (by omega)).mp z; omega), rd_at q 5 rfl rfl hq, rd_at p 5 rfl rfl p5, jn_eq, e2 14 (by decide), (gh.1 q hq).1, (gh.1 p p5).1]
    by_cases e : gr q = gr p
    · rw [if_pos (by rw [e]), bnd_eq, bnd_eq]
      have a1 : nI p * 45 + nI q * 9 = nI (45 * p + 9 * q) := by
        rw [show (45 : Int32) = nI 45 from rfl, show (9 : Int32) = nI 9 from rfl, n_mul, n_mul, nI_add, Nat.mul_comm p 45, Nat.mul_comm q 9]
      have a2 : nI (fol gr p) * 45 + nI q * 9 = nI (45 * fol gr p + 9 * q) := by
        rw [show (45 : Int32) = nI 45 from rfl, show (9 : Int32) = nI 9 from rfl, n_mul, n_mul, nI_add, Nat.mul_comm (fol gr p) 45, Nat.mul_comm q 9]
      have a3 : fC_rowOf h' (nI p) (nI q) (nI s) = some (nI (((5 * p + q) * 9 + s) * 9), h') := by
        unfold fC_rowOf ret1
        rw [show (5 : Int32) = nI 5 from rfl, show (9 : Int32) = nI 9 from rfl, n_mul, nI_add, n_mul, nI_add, n_mul, Nat.mul_comm p 5]
      rw [a1, a2, a3, cal_some]
      refine lay68 (h := h') (σ := σ) (p := p) (q := q) (s := s) (n5 := fol gr p) w (by rw [e2 3 (by decide)]; exact g3) f1 e0 hq hs (fun h2 k1 k2 k3 => ?_)
      rw [n_s1]
      refine hn (nI (q + 1), h2) ⟨by omega, rfl, fun k hk => (k1 k hk).trans (e2 k hk), fun x' hx => (k2 x' (by omega)).trans (e3 x' hx), fun q' t c1 c2 c3 c4 c5 => ?_⟩
      show h2 22 (45 * fol gr p + 9 * q' + t) = _
      by_cases z : q' = q
      · rw [z] at c3 c5 ⊢
        rw [k3 t c4, e3 (45 * p + 9 * q + t) (by omega), l q t (by omega) hq e c4 c5, e2 26 (by decide), gh.2 q p (G.2.1 q p hq p5 e (by omega)) hp (by omega) s t hs c4 hf c5, nI_add]
      · rw [k2 _ (by omega)]
        exact e4 q' t c1 (by omega) c3 c4 c5
    · rw [if_neg (fun z => e ((nI_eq (by omega) (by omega)).mp z)), n_s1]
      refine hn (nI (q + 1), h') ⟨by omega, rfl, e2, e3, fun q' t c1 c2 c3 c4 c5 => ?_⟩
      by_cases z : q' = q
      · rw [z] at c3; exact absurd c3 e
      · exact e4 q' t c1 (by omega) c3 c4 c5
  · rintro ⟨x, h'⟩ n ⟨e0, e1, e2, e3, e4⟩
    dsimp only at e0 e1 e2 e3 e4
    subst e1
    show Q (fS_lay_L10 (nI p) (nI s) (nI (fol gr p)) (n + 1) (nI 5) h')
    rw [fS_lay_L10, if_pos (show (5 : Int32) ≤ nI 5 by decide)]
    refine hK h' e2 e3 (fun q t c1 c2 c3 c4 c5 => ?_)
    have e5 := f4 (by omega)
    rw [ld_st p5 (c3.trans e5)]
    exact e4 q t c1 c2 (c3.trans e5) c4 c5
theorem lay_eq {v : Nat → Nat} {p s : Nat} (w : WF σ) (G : GRP σ gr) (gh : GH σ gr h) (g3 : h 3 3 = nI (PP σ)) (hp : tkp σ p = true) (hs : s < PP σ) (hf : ft σ p s = true) (l : LD σ gr v p h) : ∃ h', fS_lay h (nI p) (nI s) = some (0, h') ∧ (∀ k, k ≠ 22 → h' k = h k) ∧ (∀ x, x < 45 * fol gr p ∨ 45 * fol gr p + 45 ≤ x → h' 22 x = h 22 x) ∧ LD σ gr (sv v p s) (fol gr p) h' :=
  lay_K (Q := fun o => ∃ h', o = some (0, h') ∧ (∀ k, k ≠ 22 → h' k = h k) ∧ (∀ x, x < 45 * fol gr p ∨ 45 * fol gr p + 45 ≤ x → h' 22 x = h 22 x) ∧ LD σ gr (sv v p s) (fol gr p) h') w G gh g3 hp hs hf l (fun h' a b c => ⟨h', rfl, a, b, c⟩)
end Lay
