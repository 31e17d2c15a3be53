/-! THE CLASS RECKONS CLASHES: all spots -/
section Reckon2
variable {σ : Sg} {h : Hp}
theorem reckon_eq {i j : Nat} (w : WF σ) (cs : CS σ h) (rc : RC σ h) (hi : tkp σ i = true) (hj : tkp σ j = true) : ∃ b h', fC_reckon h (nI i) (nI j) (nI (opM σ i)) (nI (opM σ j)) = some (bI b, h') ∧ (∀ k, k ≠ 26 → h' k = h k) ∧ (∀ x, x < (5 * i + j) * 81 ∨ (5 * i + j) * 81 + 81 ≤ x → h' 26 x = h 26 x) ∧ BT σ i j (fun _ _ => True) h' ∧ (b = false → NQ σ i j (fun _ _ => True)) := by
  have hP := PP_le w
  unfold fC_reckon
  rw [places_eq cs, cal_some]
  show ∃ b h', fC_reckon_L15 (nI i) (nI j) (nI (opM σ i)) (nI (opM σ j)) (nI (PP σ)) FU 0 0 h = _ ∧ _
  refine loopK (fun n (a : Int32 × Int32 × Hp) => fC_reckon_L15 (nI i) (nI j) (nI (opM σ i)) (nI (opM σ j)) (nI (PP σ)) n a.1 a.2.1 a.2.2) (fun s a => ∃ b' : Bool, a.1 = bI b' ∧ a.2.1 = nI s ∧ (∀ k, k ≠ 26 → a.2.2 k = h k) ∧ (∀ x, x < (5 * i + j) * 81 ∨ (5 * i + j) * 81 + 81 ≤ x → a.2.2 26 x = h 26 x) ∧ BT σ i j (fun s' _ => s' < s) a.2.2 ∧ (b' = false → NQ σ i j (fun s' _ => s' < s))) (fun o => ∃ b h', o = some (bI b, h') ∧ (∀ k, k ≠ 26 → h' k = h k) ∧ (∀ x, x < (5 * i + j) * 81 ∨ (5 * i + j) * 81 + 81 ≤ x → h' 26 x = h 26 x) ∧ BT σ i j (fun _ _ => True) h' ∧ (b = false → NQ σ i j (fun _ _ => True))) (PP σ) (by omega) ?_ ?_ 0 (0, 0, h) (by omega) ⟨false, rfl, rfl, fun _ _ => rfl, fun _ _ => rfl, fun s' t' _ _ _ _ q => by omega, fun _ s' t' _ _ _ _ q => by omega⟩
  · rintro s ⟨x, y, h'⟩ n hs ⟨b', e1, e2, e3, e4, e5, e6⟩ hn
    dsimp only at e1 e2 e3 e4 e5
    subst e1
    subst e2
    show ∃ b h2, fC_reckon_L15 (nI i) (nI j) (nI (opM σ i)) (nI (opM σ j)) (nI (PP σ)) (n + 1) (bI b') (nI s) h' = _ ∧ _
    rw [fC_reckon_L15, if_neg (fun q => by have := (n_le rfl rfl (by omega) (by omega)).mp q; omega)]
    unfold fC_rowOf ret1
    rw [cal_some, n_ix (Mm := 5) (m := 5) rfl rfl, show (9 : Int32) = nI 9 from rfl, n_mul, nI_add, n_mul]
    refine reckon34 (Q := fun o => ∃ b h', o = some (bI b, h') ∧ (∀ k, k ≠ 26 → h' k = h k) ∧ (∀ x, x < (5 * i + j) * 81 ∨ (5 * i + j) * 81 + 81 ≤ x → h' 26 x = h 26 x) ∧ BT σ i j (fun _ _ => True) h' ∧ (b = false → NQ σ i j (fun _ _ => True))) w cs rc hi hj hs e3 e4 e5 e6 (fun t => Nat.lt_irrefl s) (fun b2 h2 c1 c2 c3 c4 => ?_)
    rw [n_s1]
    refine hn (bI b2, nI (s + 1), h2) ⟨b2, rfl, rfl, c1, c2, fun s' t' a1 a2 a3 a4 a5 => c3 s' t' a1 a2 a3 a4 (by omega), fun hb s' t' a1 a2 a3 a4 a5 => c4 hb s' t' a1 a2 a3 a4 (by omega)⟩
  · rintro ⟨x, y, h'⟩ n ⟨b', e1, e2, e3, e4, e5, e6⟩
    dsimp only at e1 e2 e3 e4 e5
    subst e1
    subst e2
    show ∃ b h2, fC_reckon_L15 (nI i) (nI j) (nI (opM σ i)) (nI (opM σ j)) (nI (PP σ)) (n + 1) (bI b') (nI (PP σ)) h' = _ ∧ _
    rw [fC_reckon_L15, if_pos (Int32.le_refl _), retz_b]
    exact ⟨b', h', rfl, e3, e4, fun s' t' a1 a2 a3 a4 _ => e5 s' t' a1 a2 a3 a4 a1, fun hb s' t' a1 a2 a3 a4 _ => e6 hb s' t' a1 a2 a3 a4 a1⟩
end Reckon2
