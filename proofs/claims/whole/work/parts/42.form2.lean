/-! THE CLASS FORMS THE GROUPS: the loops -/
section Form2
variable {σ : Sg} {h : Hp}
/-- what formGroups finds: who takes part, on which spots -/
def OP (σ : Sg) (h : Hp) : Prop := ∀ p, p < 5 → h 13 p = bI (tkp σ p) ∧ h 16 p = nI (opM σ p)
theorem form23 {K : Hp → RO} {Q : RO → Prop} {h0 : Hp} {p : Nat} {gr : Nat → Nat} (w : WF σ) (cs : CS σ h0) (rc : RC σ h0) (op : OP σ h0) (hp : p < 5) (fr : ∀ k, k ≠ 14 → k ≠ 26 → h k = h0 k) (g : GI σ p 0 gr h) (hK : ∀ h' gr', (∀ k, k ≠ 14 → k ≠ 26 → h' k = h0 k) → GI σ p p gr' h' → Q (K h')) : Q (fS_formGroups_L23 K (nI p) FU 0 h) := by
  refine loopK (fun n (x : Int32 × Hp) => fS_formGroups_L23 K (nI p) n x.1 x.2) (fun a x => x.1 = nI a ∧ (∀ k, k ≠ 14 → k ≠ 26 → x.2 k = h0 k) ∧ ∃ gr', GI σ p a gr' x.2) Q p (by omega) ?_ ?_ 0 (0, h) (by omega) ⟨rfl, fr, gr, g⟩
  · rintro a ⟨x, h'⟩ n ha ⟨e1, e2, gr', e3⟩ hn
    dsimp only at e1 e2 e3
    subst e1
    have cs' : CS σ h' := cs.keep (fun k hk => e2 k (by omega) (by omega))
    have rc' : RC σ h' := fun c hc => by rw [e2 23 (by decide) (by decide), e2 24 (by decide) (by decide), e2 25 (by decide) (by decide)]; exact rc c hc
    have op' : OP σ h' := fun q hq => by rw [e2 13 (by decide) (by decide), e2 16 (by decide) (by decide)]; exact op q hq
    have skip : ¬ (tkp σ a = true ∧ tkp σ p = true) → GI σ p (a + 1) gr' h' := fun hne => ⟨e3.1, e3.2.1, fun i j hi hj k1 k2 hc => e3.2.2 i j hi hj k1 k2 (by
      rcases hc with q | q
      · exact Or.inl q
      · by_cases z : i < p
        · exact Or.inl z
        · by_cases y : j = a
          · have : i = p := by omega
            rw [y] at k2; rw [this] at k1
            exact absurd ⟨k2, k1⟩ hne
          · exact Or.inr (by omega))⟩
    show Q (fS_formGroups_L23 K (nI p) (n + 1) (nI a) h')
    rw [fS_formGroups_L23, if_neg (fun z => by have := (n_le rfl rfl (by omega) (by omega)).mp z; omega), rdz_at a 5 rfl rfl (by omega), jn_eq, (op' a (by omega)).1, if_b0, n_s1]
    cases t1 : tkp σ a with
    | false => exact hn (nI (a + 1), h') ⟨rfl, e2, gr', skip (fun q => by rw [t1] at q; exact absurd q.1 (by decide))⟩
    | true =>
      rw [cond_true, rdz_at p 5 rfl rfl hp, (op' p hp).1, if_b0]
      cases t2 : tkp σ p with
      | false => exact hn (nI (a + 1), h') ⟨rfl, e2, gr', skip (fun q => by rw [t2] at q; exact absurd q.2 (by decide))⟩
      | true =>
        rw [cond_true, rd_at a 5 rfl rfl (by omega), (op' a (by omega)).2, rd_at p 5 rfl rfl hp, (op' p hp).2]
        obtain ⟨b, h2, r1, r2, r3, r4, r5⟩ := reckon_eq w cs' rc' t1 t2
        rw [r1, cal_some, if_b0]
        -- the other pairs' clashes stay
        have e26 : ∀ i j, i ≤ p → j < i → ¬ (i = p ∧ j = a) → BT σ j i (fun _ _ => True) h' → BT σ j i (fun _ _ => True) h2 := fun i j hi hj hne bt s t c1 c2 c3 c4 c5 => by
          have hP := PP_le w
          rw [r3 _ (by omega)]
          exact bt s t c1 c2 c3 c4 c5
        have g2 : GI σ p a gr' h2 := ⟨fun i hi => by rw [r2 14 (by decide)]; exact e3.1 i hi, e3.2.1, fun i j hi hj k1 k2 hc => by
          obtain ⟨c1, c2⟩ := e3.2.2 i j hi hj k1 k2 hc
          exact ⟨e26 i j hi hj (by omega) c1, c2⟩⟩
        have fr2 : ∀ k, k ≠ 14 → k ≠ 26 → h2 k = h0 k := fun k k1 k2 => (r2 k k2).trans (e2 k k1 k2)
        cases b with
        | false =>
          rw [cond_false]
          refine hn (nI (a + 1), h2) ⟨rfl, fr2, gr', g2.1, g2.2.1, fun i j hi hj k1 k2 hc => ?_⟩
          by_cases z : i < p ∨ j < a
          · exact g2.2.2 i j hi hj k1 k2 z
          · have y1 : i = p := by omega
            have y2 : j = a := by omega
            rw [y1, y2]
            exact ⟨r4, fun _ => r5 rfl⟩
        | true =>
          obtain ⟨a1, a2, -⟩ := g2.1 a (by omega)
          obtain ⟨p1, p2, -⟩ := g2.1 p (Nat.le_refl _)
          rw [cond_true, rd_at a 5 rfl rfl (by omega), a1, rd_at p 5 rfl rfl hp, p1]
          obtain ⟨h3, j1, j2, j3⟩ := join_eq (h := h2) (a := gr' a) (b := gr' p) (by omega) (by omega)
          rw [j1, cal_some]
          exact hn (nI (a + 1), h3) ⟨rfl, fun k k1 k2 => (j2 k k1).trans (fr2 k k1 k2), _, g2.join ha t1 t2 hp j3 (j2 26 (by decide)) r4⟩
  · rintro ⟨x, h'⟩ n ⟨e1, e2, gr', e3⟩
    dsimp only at e1 e2 e3
    subst e1
    show Q (fS_formGroups_L23 K (nI p) (n + 1) (nI p) h')
    rw [fS_formGroups_L23, if_pos (Int32.le_refl _)]
    exact hK h' gr' e2 e3
end Form2
