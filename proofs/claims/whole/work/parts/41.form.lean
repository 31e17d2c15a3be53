/-! THE CLASS FORMS THE GROUPS -/
section Form
variable {σ : Sg} {h : Hp}
/-- groups of the pieces up to p; p has been held against those ahead of a -/
def GI (σ : Sg) (p a : Nat) (gr : Nat → Nat) (h : Hp) : Prop := (∀ i, i ≤ p → h 14 i = nI (gr i) ∧ gr i ≤ i ∧ gr (gr i) = gr i) ∧ (∀ i j, i ≤ p → j ≤ p → gr i = gr j → i ≠ j → tkp σ i = true) ∧ ∀ i j, i ≤ p → j < i → tkp σ i = true → tkp σ j = true → (i < p ∨ j < a) → BT σ j i (fun _ _ => True) h ∧ (gr j ≠ gr i → NQ σ j i (fun _ _ => True))
/-- two groups joined -/
def jo (gr : Nat → Nat) (a b : Nat) : Nat → Nat := fun i => if gr i = max (gr a) (gr b) then min (gr a) (gr b) else gr i
theorem GI.join {p a : Nat} {gr : Nat → Nat} {h' : Hp} (g : GI σ p a gr h) (ha : a < p) (t1 : tkp σ a = true) (t2 : tkp σ p = true) (hp : p < 5) (h14 : ∀ i, i < 5 → h' 14 i = if h 14 i = nI (max (gr a) (gr p)) then nI (min (gr a) (gr p)) else h 14 i) (h26 : h' 26 = h 26) (bt : BT σ a p (fun _ _ => True) h) : GI σ p (a + 1) (jo gr a p) h' := by
  obtain ⟨g1, g2, g3⟩ := g
  have ga := g1 a (by omega)
  have gp := g1 p (Nat.le_refl _)
  have i1 : gr (min (gr a) (gr p)) = min (gr a) (gr p) := by
    rcases Nat.le_total (gr a) (gr p) with q | q
    · rw [Nat.min_eq_left q]; exact ga.2.2
    · rw [Nat.min_eq_right q]; exact gp.2.2
  have same : ∀ i j, gr i = gr j → jo gr a p i = jo gr a p j := fun i j e => by unfold jo; rw [e]
  have joAP : jo gr a p a = jo gr a p p := by
    unfold jo
    rcases Nat.le_total (gr a) (gr p) with q | q
    · rw [Nat.max_eq_right q, Nat.min_eq_left q, if_pos rfl]
      split <;> omega
    · rw [Nat.max_eq_left q, Nat.min_eq_right q, if_pos rfl]
      split <;> omega
  have inT : ∀ i, i ≤ p → (gr i = gr a ∨ gr i = gr p) → tkp σ i = true := fun i hi q => by
    rcases q with q | q
    · by_cases e : i = a
      · rw [e]; exact t1
      · exact g2 i a hi (by omega) q e
    · by_cases e : i = p
      · rw [e]; exact t2
      · exact g2 i p hi (Nat.le_refl _) q e
  refine ⟨fun i hi => ?_, fun i j hi hj e hne => ?_, fun i j hi hj k1 k2 hc => ?_⟩
  · obtain ⟨b1, b2, b3⟩ := g1 i hi
    refine ⟨?_, ?_, ?_⟩
    · rw [h14 i (by omega), b1]
      unfold jo
      by_cases e : gr i = max (gr a) (gr p)
      · rw [if_pos (by rw [e]), if_pos e]
      · rw [if_neg (fun z => e ((nI_eq (by omega) (by omega)).mp z)), if_neg e]
    · unfold jo
      split <;> omega
    · unfold jo
      by_cases e : gr i = max (gr a) (gr p)
      · rw [if_pos e]
        by_cases z : gr (min (gr a) (gr p)) = max (gr a) (gr p)
        · rw [if_pos z]
        · rw [if_neg z]; exact i1
      · rw [if_neg e, b3, if_neg e]
  · by_cases q : gr i = gr j
    · exact g2 i j hi hj q hne
    · apply inT i hi
      unfold jo at e
      by_cases z : gr i = max (gr a) (gr p)
      · omega
      · rw [if_neg z] at e
        by_cases y : gr j = max (gr a) (gr p)
        · rw [if_pos y] at e; omega
        · rw [if_neg y] at e; exact absurd e q
  · have bt' : ∀ i j, BT σ j i (fun _ _ => True) h → BT σ j i (fun _ _ => True) h' := fun i j b s t c1 c2 c3 c4 c5 => by rw [h26]; exact b s t c1 c2 c3 c4 c5
    by_cases q : i < p ∨ j < a
    · obtain ⟨c1, c2⟩ := g3 i j hi hj k1 k2 q
      exact ⟨bt' i j c1, fun z => c2 (fun e => z (same j i e))⟩
    · have e1 : i = p := by omega
      have e2 : j = a := by omega
      rw [e1, e2]
      exact ⟨bt' p a bt, fun z => absurd joAP z⟩
end Form
