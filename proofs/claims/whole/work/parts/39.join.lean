/-! THE CLASS JOINS TWO GROUPS -/
section Join
variable {h : Hp}
theorem bnd_eq (x : Int32) (f : Int32 → RO) : bnd x f = f x := by unfold bnd; exact Eq.refl _
theorem join_eq {a b : Nat} (ha : a < 5) (hb : b < 5) : ∃ h', fS_join h (nI a) (nI b) = some (0, h') ∧ (∀ k, k ≠ 14 → h' k = h k) ∧ ∀ i, i < 5 → h' 14 i = if h 14 i = nI (max a b) then nI (min a b) else h 14 i := by
  unfold fS_join
  have e1 : mnI (nI a) (nI b) = nI (min a b) := by
    unfold mnI
    by_cases q : b < a
    · rw [if_pos ((nI_ltI (by omega) (by omega)).mpr q), Nat.min_eq_right (by omega)]
    · rw [if_neg (fun z => q ((nI_ltI (by omega) (by omega)).mp z)), Nat.min_eq_left (by omega)]
  have e2 : mxI (nI a) (nI b) = nI (max a b) := by
    unfold mxI
    by_cases q : a < b
    · rw [if_pos ((nI_ltI (by omega) (by omega)).mpr q), Nat.max_eq_right (by omega)]
    · rw [if_neg (fun z => q ((nI_ltI (by omega) (by omega)).mp z)), Nat.max_eq_left (by omega)]
  rw [bnd_eq, bnd_eq, e1, e2]
  refine loopK (fun n (x : Int32 × Hp) => fS_join_L16 (nI (min a b)) (nI (max a b)) n x.1 x.2) (fun i x => x.1 = nI i ∧ (∀ k, k ≠ 14 → x.2 k = h k) ∧ (∀ j, j < i → x.2 14 j = if h 14 j = nI (max a b) then nI (min a b) else h 14 j) ∧ ∀ j, i ≤ j → x.2 14 j = h 14 j) (fun o => ∃ h', o = some (0, h') ∧ (∀ k, k ≠ 14 → h' k = h k) ∧ ∀ i, i < 5 → h' 14 i = if h 14 i = nI (max a b) then nI (min a b) else h 14 i) 5 (by omega) ?_ ?_ 0 (0, h) (by omega) ⟨rfl, fun _ _ => rfl, fun j hj => by omega, fun _ _ => rfl⟩
  · rintro i ⟨x, h'⟩ n hi ⟨c1, c2, c3, c4⟩ hn
    dsimp only at c1 c2 c3 c4
    subst c1
    show ∃ h2, fS_join_L16 (nI (min a b)) (nI (max a b)) (n + 1) (nI i) h' = _ ∧ _
    rw [fS_join_L16, if_neg (fun q => by have := (n_le (X := 5) (a := 5) rfl rfl (by omega) (by omega)).mp q; omega), rd_at i 5 rfl rfl hi, jn_eq, c4 i (Nat.le_refl _), n_s1]
    by_cases z : h 14 i = nI (max a b)
    · rw [if_pos z, wr_at i 5 rfl rfl hi]
      refine hn (nI (i + 1), up h' 14 i (nI (min a b))) ⟨rfl, fun k hk => (up_ne h' hk _ _).trans (c2 k hk), fun j hj => ?_, fun j hj => ?_⟩
      · show up h' 14 i (nI (min a b)) 14 j = _
        rw [up_k]
        by_cases q : j = i
        · rw [q, upd_same, if_pos z]
        · rw [upd_ne q]; exact c3 j (by omega)
      · show up h' 14 i (nI (min a b)) 14 j = _
        rw [up_k, upd_ne (by omega)]
        exact c4 j (by omega)
    · rw [if_neg z]
      refine hn (nI (i + 1), h') ⟨rfl, c2, fun j hj => ?_, fun j hj => c4 j (by omega)⟩
      show h' 14 j = _
      by_cases q : j = i
      · rw [q, if_neg z]; exact c4 i (Nat.le_refl _)
      · exact c3 j (by omega)
  · rintro ⟨x, h'⟩ n ⟨c1, c2, c3, c4⟩
    dsimp only at c1 c2 c3 c4
    subst c1
    show ∃ h2, fS_join_L16 (nI (min a b)) (nI (max a b)) (n + 1) (nI 5) h' = _ ∧ _
    rw [fS_join_L16, if_pos (show (5 : Int32) ≤ nI 5 by decide)]
    exact ⟨h', rfl, c2, c3⟩
end Join
