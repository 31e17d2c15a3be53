/-! THE CLASS FORMS THE GROUPS: all of it -/
section Form3
variable {σ : Sg} {h : Hp}
def GO (σ : Sg) (p : Nat) (gr : Nat → Nat) (h : Hp) : Prop := (∀ i, i < p → h 14 i = nI (gr i) ∧ gr i ≤ i ∧ gr (gr i) = gr i) ∧ (∀ i j, i < p → j < p → gr i = gr j → i ≠ j → tkp σ i = true) ∧ ∀ i j, i < p → j < i → tkp σ i = true → tkp σ j = true → BT σ j i (fun _ _ => True) h ∧ (gr j ≠ gr i → NQ σ j i (fun _ _ => True))
theorem form9 {K : Hp → RO} {Q : RO → Prop} {h0 : Hp} (w : WF σ) (cs : CS σ h0) (rc : RC σ h0) (op : OP σ h0) (hK : ∀ h' gr', (∀ k, k ≠ 14 → k ≠ 26 → h' k = h0 k) → GO σ 5 gr' h' → Q (K h')) : Q (fS_formGroups_L9 K FU 0 h0) := by
  refine loopK (fun n (x : Int32 × Hp) => fS_formGroups_L9 K n x.1 x.2) (fun p x => x.1 = nI p ∧ (∀ k, k ≠ 14 → k ≠ 26 → x.2 k = h0 k) ∧ ∃ gr', GO σ p gr' x.2) Q 5 (by omega) ?_ ?_ 0 (0, h0) (by omega) ⟨rfl, fun _ _ _ => rfl, fun i => i, fun i hi => by omega, fun i j hi => by omega, fun i j hi => by omega⟩
  · rintro p ⟨x, h'⟩ n hp ⟨e1, e2, gr, g1, g2, g3⟩ hn
    dsimp only at e1 e2 g1 g3
    subst e1
    show Q (fS_formGroups_L9 K (n + 1) (nI p) h')
    rw [fS_formGroups_L9, if_neg (fun z => by have := (n_le (X := 5) (a := 5) rfl rfl (by omega) (by omega)).mp z; omega), wr_at p 5 rfl rfl hp]
    refine form23 (h0 := h0) (gr := sv gr p p) w cs rc op hp (fun k k1 k2 => (up_ne h' k1 _ _).trans (e2 k k1 k2)) ⟨fun i hi => ?_, fun i j hi hj e hne => ?_, fun i j hi hj k1 k2 hc => ?_⟩ (fun h2 gr2 f2 q2 => ?_)
    · rw [up_k]
      by_cases e : i = p
      · rw [e, upd_same, sv_s, sv_s]
        exact ⟨rfl, Nat.le_refl _, rfl⟩
      · obtain ⟨a1, a2, a3⟩ := g1 i (by omega)
        rw [upd_ne e, sv_n e, sv_n (by omega)]
        exact ⟨a1, a2, a3⟩
    · by_cases z : i = p
      · exfalso
        have y : j ≠ p := by omega
        rw [z, sv_s, sv_n y] at e
        have := (g1 j (by omega)).2.1
        omega
      · by_cases y : j = p
        · exfalso
          rw [y, sv_s, sv_n z] at e
          have := (g1 i (by omega)).2.1
          omega
        · rw [sv_n z, sv_n y] at e
          exact g2 i j (by omega) (by omega) e hne
    · have z : i < p := by omega
      obtain ⟨c1, c2⟩ := g3 i j z hj k1 k2
      rw [sv_n (show i ≠ p by omega), sv_n (show j ≠ p by omega)]
      exact ⟨fun s t d1 d2 d3 d4 d5 => by rw [up_ne h' (by decide)]; exact c1 s t d1 d2 d3 d4 d5, c2⟩
    · rw [n_s1]
      refine hn (nI (p + 1), h2) ⟨rfl, f2, gr2, fun i hi => q2.1 i (by omega), fun i j hi hj => q2.2.1 i j (by omega) (by omega), fun i j hi hj k1 k2 => q2.2.2 i j (by omega) hj k1 k2 (by omega)⟩
  · rintro ⟨x, h'⟩ n ⟨e1, e2, gr, g⟩
    dsimp only at e1 e2 g
    subst e1
    show Q (fS_formGroups_L9 K (n + 1) (nI 5) h')
    rw [fS_formGroups_L9, if_pos (show (5 : Int32) ≤ nI 5 by decide)]
    exact hK h' gr e2 g
theorem form100 {Q : RO → Prop} {gr : Nat → Nat} (hg : ∀ i, i < 5 → h 14 i = nI (gr i) ∧ gr i < 5) (hK : ∀ h', (∀ k, k ≠ 15 → h' k = h k) → (∀ p, p < 5 → h' 15 p = nI (fol gr p)) → Q (some (0, h'))) : Q (fS_formGroups_L100 FU 0 h) := by
  refine loopK (fun n (x : Int32 × Hp) => fS_formGroups_L100 n x.1 x.2) (fun p x => x.1 = nI p ∧ (∀ k, k ≠ 15 → x.2 k = h k) ∧ ∀ i, i < p → x.2 15 i = nI (fol gr i)) Q 5 (by omega) ?_ ?_ 0 (0, h) (by omega) ⟨rfl, fun _ _ => rfl, fun i hi => by omega⟩
  · rintro p ⟨x, h'⟩ n hp ⟨e1, e2, e3⟩ hn
    dsimp only at e1 e2 e3
    subst e1
    show Q (fS_formGroups_L100 (n + 1) (nI p) h')
    rw [fS_formGroups_L100, if_neg (fun z => by have := (n_le (X := 5) (a := 5) rfl rfl (by omega) (by omega)).mp z; omega), nextOfGroup_eq (gr := gr) (fun i hi => by rw [e2 14 (by decide)]; exact hg i hi) hp, cal_some, wr_at p 5 rfl rfl hp, n_s1]
    refine hn (nI (p + 1), up h' 15 p (nI (fol gr p))) ⟨rfl, fun k hk => (up_ne h' hk _ _).trans (e2 k hk), fun i hi => ?_⟩
    show up h' 15 p (nI (fol gr p)) 15 i = _
    rw [up_k]
    by_cases e : i = p
    · rw [e, upd_same]
    · rw [upd_ne e]; exact e3 i (by omega)
  · rintro ⟨x, h'⟩ n ⟨e1, e2, e3⟩
    dsimp only at e1 e2 e3
    subst e1
    show Q (fS_formGroups_L100 (n + 1) (nI 5) h')
    rw [fS_formGroups_L100, if_pos (show (5 : Int32) ≤ nI 5 by decide)]
    exact hK h' e2 e3
/-- the groups as the class holds them -/
def GH (σ : Sg) (gr : Nat → Nat) (h : Hp) : Prop := (∀ i, i < 5 → h 14 i = nI (gr i) ∧ h 15 i = nI (fol gr i)) ∧ ∀ i j, tkp σ i = true → tkp σ j = true → j < i → ∀ s t, s < PP σ → t < PP σ → ft σ j s = true → ft σ i t = true → h 26 (((5 * j + i) * 9 + s) * 9 + t) = nI (cl σ j s i t)
theorem formGroups_eq (w : WF σ) (cs : CS σ h) (op : OP σ h) : ∃ h' gr, fS_formGroups h = some (0, h') ∧ (∀ k, k ≠ 14 → k ≠ 15 → (k < 23 ∨ 26 < k) → h' k = h k) ∧ GRP σ gr ∧ GH σ gr h' := by
  obtain ⟨h1, r1, r2, r3⟩ := readCopies_eq w cs
  unfold fS_formGroups
  rw [r1, cal_some]
  have cs1 : CS σ h1 := cs.keep (fun k hk => r2 k (by omega) (by omega) (by omega))
  have op1 : OP σ h1 := fun p hp => by rw [r2 13 (by decide) (by decide) (by decide), r2 16 (by decide) (by decide) (by decide)]; exact op p hp
  refine form9 (Q := fun o => ∃ h' gr, o = some (0, h') ∧ (∀ k, k ≠ 14 → k ≠ 15 → (k < 23 ∨ 26 < k) → h' k = h k) ∧ GRP σ gr ∧ GH σ gr h') w cs1 r3 op1 (fun h2 gr f2 g2 => ?_)
  refine form100 (Q := fun o => ∃ h' gr, o = some (0, h') ∧ (∀ k, k ≠ 14 → k ≠ 15 → (k < 23 ∨ 26 < k) → h' k = h k) ∧ GRP σ gr ∧ GH σ gr h') (gr := gr) (fun i hi => ⟨(g2.1 i hi).1, by have := (g2.1 i hi).2.1; omega⟩) (fun h3 f3 q3 => ?_)
  refine ⟨h3, gr, rfl, fun k k1 k2 k3 => ?_, ⟨fun i hi => (g2.1 i hi).2, fun i j hi hj => g2.2.1 i j hi hj, fun i j t1 t2 hj hne s t hs ht f1 f2 => ?_⟩, fun i hi => ⟨by rw [f3 14 (by decide)]; exact (g2.1 i hi).1, q3 i hi⟩, fun i j t1 t2 hj s t hs ht f1 f2 => ?_⟩
  · rw [f3 k k2, f2 k k1 (by omega)]
    exact r2 k (by omega) (by omega) (by omega)
  · exact (g2.2.2 i j (tkp5 w t1) hj t1 t2).2 hne t s ht hs f2 f1 trivial
  · rw [f3 26 (by decide)]
    exact (g2.2.2 i j (tkp5 w t1) hj t1 t2).1 s t hs ht f1 f2 trivial
end Form3
