/-! THE CLASS READS THE COPIES AND RECKONS CLASHES -/
section Reckon
variable {σ : Sg} {h : Hp}
theorem readCopies_eq (w : WF σ) (cs : CS σ h) : ∃ h', fC_readCopies h = some (0, h') ∧ (∀ k, k ≠ 23 → k ≠ 24 → k ≠ 25 → h' k = h k) ∧ RC σ h' := by
  have hnc := w.nc_le
  unfold fC_readCopies
  refine loopK (fun n (a : Int32 × Hp) => fC_readCopies_L2 n a.1 a.2) (fun i a => a.1 = nI i ∧ (∀ k, k ≠ 23 → k ≠ 24 → k ≠ 25 → a.2 k = h k) ∧ ∀ c, c < i → a.2 23 c = nI (thM σ c) ∧ a.2 24 c = nI (ntM σ c) ∧ a.2 25 c = nI (ofs σ c)) (fun o => ∃ h', o = some (0, h') ∧ (∀ k, k ≠ 23 → k ≠ 24 → k ≠ 25 → h' k = h k) ∧ RC σ h') (σ 0 3) (by omega) ?_ ?_ 0 (0, h) (by omega) ⟨rfl, fun _ _ _ _ => rfl, fun p hp => by omega⟩
  · rintro i ⟨x, h'⟩ n hi ⟨e1, e2, e3⟩ hn
    dsimp only at e1 e2 e3
    subst e1
    have cs' : CS σ h' := cs.keep (fun k hk => e2 k (by omega) (by omega) (by omega))
    have cs1 : CS σ (up h' 23 i (nI (thM σ i))) := cs'.keep (fun k hk => up_ne h' (by omega) _ _)
    have cs2 : CS σ (up (up h' 23 i (nI (thM σ i))) 24 i (nI (ntM σ i))) := cs1.keep (fun k hk => up_ne _ (by omega) _ _)
    show ∃ h2, fC_readCopies_L2 (n + 1) (nI i) h' = some (_, h2) ∧ _
    rw [fC_readCopies_L2, if_neg (fun q => by rw [cs'.1 3 (by decide)] at q; have := (n_le rfl rfl (by omega) (by omega)).mp q; omega), copyFact_eq (W := 8) (w := 8) w cs' hi rfl (by decide), cal_some, wr_at i 30 rfl rfl (by omega), show cpF σ i 8 = nI (thM σ i) from rfl, copyFact_eq (W := 9) (w := 9) w cs1 hi rfl (by decide), cal_some, wr_at i 30 rfl rfl (by omega), show cpF σ i 9 = nI (ntM σ i) from rfl, offsetOf_eq w cs2 hi, cal_some, wr_at i 30 rfl rfl (by omega), n_s1]
    refine hn (nI (i + 1), up (up (up h' 23 i (nI (thM σ i))) 24 i (nI (ntM σ i))) 25 i (nI (ofs σ i))) ?_
    dsimp only
    refine ⟨rfl, fun k k1 k2 k3 => by rw [up_ne _ k3, up_ne _ k2, up_ne _ k1]; exact e2 k k1 k2 k3, fun p hp => ?_⟩
    rw [up_ne _ (show 23 ≠ 25 by decide), up_ne _ (show 23 ≠ 24 by decide), up_k, up_ne _ (show 24 ≠ 25 by decide), up_k, up_ne h' (show 24 ≠ 23 by decide), up_k, up_ne _ (show 25 ≠ 24 by decide), up_ne _ (show 25 ≠ 23 by decide)]
    by_cases q : p = i
    · rw [q, upd_same, upd_same, upd_same]
      exact ⟨rfl, rfl, rfl⟩
    · rw [upd_ne q, upd_ne q, upd_ne q]
      exact e3 p (by omega)
  · rintro ⟨x, h'⟩ n ⟨e1, e2, e3⟩
    dsimp only at e1 e2 e3
    subst e1
    have cs' : CS σ h' := cs.keep (fun k hk => e2 k (by omega) (by omega) (by omega))
    show ∃ h2, fC_readCopies_L2 (n + 1) (nI (σ 0 3)) h' = some (_, h2) ∧ _
    rw [fC_readCopies_L2, if_pos (by rw [cs'.1 3 (by decide)]; exact Int32.le_refl _)]
    exact ⟨h', rfl, e2, e3⟩
theorem opM_bit {i : Nat} (hi : tkp σ i = true) (s : Nat) : (opM σ i).testBit s = (decide (s < PP σ) && ft σ i s) := by
  unfold opM spM
  rw [if_pos hi, msk_bit]
  rfl
/-- the clashes of two pieces, at some of their fitting spots -/
def BT (σ : Sg) (i j : Nat) (D : Nat → Nat → Prop) (h : Hp) : Prop := ∀ s t, s < PP σ → t < PP σ → ft σ i s = true → ft σ j t = true → D s t → h 26 (((5 * i + j) * 9 + s) * 9 + t) = nI (cl σ i s j t)
def NQ (σ : Sg) (i j : Nat) (D : Nat → Nat → Prop) : Prop := ∀ s t, s < PP σ → t < PP σ → ft σ i s = true → ft σ j t = true → D s t → cl σ i s j t = 0
theorem reckon34 {K : Int32 → Hp → RO} {Q : RO → Prop} {i j s : Nat} {D : Nat → Nat → Prop} {b : Bool} {h0 : Hp} (w : WF σ) (cs : CS σ h0) (rc : RC σ h0) (hi : tkp σ i = true) (hj : tkp σ j = true) (hs : s < PP σ) (fr : ∀ k, k ≠ 26 → h k = h0 k) (fr2 : ∀ x, x < (5 * i + j) * 81 ∨ (5 * i + j) * 81 + 81 ≤ x → h 26 x = h0 26 x) (bt : BT σ i j D h) (nq : b = false → NQ σ i j D) (hD : ∀ t, ¬ D s t) (hK : ∀ b' h', (∀ k, k ≠ 26 → h' k = h0 k) → (∀ x, x < (5 * i + j) * 81 ∨ (5 * i + j) * 81 + 81 ≤ x → h' 26 x = h0 26 x) → BT σ i j (fun s' t => D s' t ∨ s' = s) h' → (b' = false → NQ σ i j (fun s' t => D s' t ∨ s' = s)) → Q (K (bI b') h')) : Q (fC_reckon_L34 K (nI i) (nI j) (nI (opM σ i)) (nI (opM σ j)) (nI (PP σ)) (nI s) (nI (((5 * i + j) * 9 + s) * 9)) FU (bI b) 0 h) := by
  have hP := PP_le w
  have hi5 := tkp5 w hi
  have hj5 := tkp5 w hj
  have ol := opM_lt w i
  have ol2 := opM_lt w j
  refine loopK (fun n (a : Int32 × Int32 × Hp) => fC_reckon_L34 K (nI i) (nI j) (nI (opM σ i)) (nI (opM σ j)) (nI (PP σ)) (nI s) (nI (((5 * i + j) * 9 + s) * 9)) n a.1 a.2.1 a.2.2) (fun t a => ∃ b' : Bool, a.1 = bI b' ∧ a.2.1 = nI t ∧ (∀ k, k ≠ 26 → a.2.2 k = h0 k) ∧ (∀ x, x < (5 * i + j) * 81 ∨ (5 * i + j) * 81 + 81 ≤ x → a.2.2 26 x = h0 26 x) ∧ BT σ i j (fun s' t' => D s' t' ∨ (s' = s ∧ t' < t)) a.2.2 ∧ (b' = false → NQ σ i j (fun s' t' => D s' t' ∨ (s' = s ∧ t' < t)))) Q (PP σ) (by omega) ?_ ?_ 0 (bI b, 0, h) (by omega) ⟨b, rfl, rfl, fr, fr2, fun s' t' a1 a2 a3 a4 a5 => bt s' t' a1 a2 a3 a4 (by rcases a5 with q | q; exact q; omega), fun hb s' t' a1 a2 a3 a4 a5 => nq hb s' t' a1 a2 a3 a4 (by rcases a5 with q | q; exact q; omega)⟩
  · rintro t ⟨x, y, h'⟩ n ht ⟨b', e1, e2, e3, e4, e5, e6⟩ hn
    dsimp only at e1 e2 e3 e4 e5
    subst e1
    subst e2
    have cs' : CS σ h' := cs.keep (fun k hk => e3 k (by omega))
    have rc' : RC σ h' := fun c hc => by rw [e3 23 (by decide), e3 24 (by decide), e3 25 (by decide)]; exact rc c hc
    show Q (fC_reckon_L34 K (nI i) (nI j) (nI (opM σ i)) (nI (opM σ j)) (nI (PP σ)) (nI s) (nI (((5 * i + j) * 9 + s) * 9)) (n + 1) (bI b') (nI t) h')
    rw [fC_reckon_L34, if_neg (fun q => by have := (n_le rfl rfl (by omega) (by omega)).mp q; omega), isIn_eq (by omega) (by omega), cal_some, jn_eq, if_b0, isIn_eq (by omega) (by omega), cal_some, if_b0, opM_bit hi, opM_bit hj, decide_eq_true hs, decide_eq_true ht, Bool.true_and, Bool.true_and, n_s1]
    have skip : ¬ (ft σ i s = true ∧ ft σ j t = true) → Q (fC_reckon_L34 K (nI i) (nI j) (nI (opM σ i)) (nI (opM σ j)) (nI (PP σ)) (nI s) (nI (((5 * i + j) * 9 + s) * 9)) n (bI b') (nI (t + 1)) h') := fun hne => by
      have red : ∀ s' t', ft σ i s' = true → ft σ j t' = true → (D s' t' ∨ (s' = s ∧ t' < t + 1)) → (D s' t' ∨ (s' = s ∧ t' < t)) := fun s' t' a3 a4 a5 => by
        rcases a5 with q | q
        · exact Or.inl q
        · by_cases z : t' = t
          · rw [q.1] at a3; rw [z] at a4; exact absurd ⟨a3, a4⟩ hne
          · exact Or.inr ⟨q.1, by omega⟩
      exact hn (bI b', nI (t + 1), h') ⟨b', rfl, rfl, e3, e4, fun s' t' a1 a2 a3 a4 a5 => e5 s' t' a1 a2 a3 a4 (red s' t' a3 a4 a5), fun hb s' t' a1 a2 a3 a4 a5 => e6 hb s' t' a1 a2 a3 a4 (red s' t' a3 a4 a5)⟩
    cases f1 : ft σ i s with
    | false => exact skip (by rw [f1]; rintro ⟨q, -⟩; exact absurd q (by decide))
    | true =>
      cases f2 : ft σ j t with
      | false => exact skip (by rw [f2]; rintro ⟨-, q⟩; exact absurd q (by decide))
      | true =>
        have hcl := cl_le w s t (tkp_lt hi).1 (tkp_lt hj).1
        rw [cond_true, cond_true, clashOf_eq w cs' rc' (tkp_lt hi).1 (tkp_lt hj).1 (by omega) (by omega), cal_some, wr_at (((5 * i + j) * 9 + s) * 9 + t) 2025 rfl (nI_add _ _) (by omega), rd_at (((5 * i + j) * 9 + s) * 9 + t) 2025 rfl (nI_add _ _) (by omega), up_k, upd_same, jn_eq]
        have fin : ∀ b2 : Bool, (b2 = false → b' = false ∧ cl σ i s j t = 0) → Q (fC_reckon_L34 K (nI i) (nI j) (nI (opM σ i)) (nI (opM σ j)) (nI (PP σ)) (nI s) (nI (((5 * i + j) * 9 + s) * 9)) n (bI b2) (nI (t + 1)) (up h' 26 (((5 * i + j) * 9 + s) * 9 + t) (nI (cl σ i s j t)))) := fun b2 hb2 => by
          refine hn (bI b2, nI (t + 1), up h' 26 (((5 * i + j) * 9 + s) * 9 + t) (nI (cl σ i s j t))) ⟨b2, rfl, rfl, fun k hk => (up_ne h' hk _ _).trans (e3 k hk), fun x hx => ?_, fun s' t' a1 a2 a3 a4 a5 => ?_, fun hb s' t' a1 a2 a3 a4 a5 => ?_⟩
          · show up h' 26 (((5 * i + j) * 9 + s) * 9 + t) (nI (cl σ i s j t)) 26 x = _
            rw [up_k, upd_ne (by omega)]
            exact e4 x hx
          · show up h' 26 (((5 * i + j) * 9 + s) * 9 + t) (nI (cl σ i s j t)) 26 (((5 * i + j) * 9 + s') * 9 + t') = _
            rw [up_k]
            by_cases z : s' = s ∧ t' = t
            · rw [z.1, z.2, upd_same]
            · rw [upd_ne (by omega)]
              refine e5 s' t' a1 a2 a3 a4 ?_
              rcases a5 with q | q
              · exact Or.inl q
              · exact Or.inr (by omega)
          · obtain ⟨c1, c2⟩ := hb2 hb
            by_cases z : s' = s ∧ t' = t
            · rw [z.1, z.2]; exact c2
            · refine e6 c1 s' t' a1 a2 a3 a4 ?_
              rcases a5 with q | q
              · exact Or.inl q
              · exact Or.inr (by omega)
        by_cases z : cl σ i s j t = 0
        · rw [if_pos (by rw [z]; decide)]
          have := fin b' (fun q => ⟨q, z⟩)
          dsimp only [bnd]
          rw [show bI b' ||| 0 = bI b' by cases b' <;> decide]
          exact this
        · rw [if_neg (fun q => z (by have := (n_le (Y := 0) (b := 0) rfl rfl (by omega) (by omega)).mp q; omega))]
          have := fin true (fun q => absurd q (by decide))
          dsimp only [bnd]
          rw [show bI b' ||| 1 = bI true by cases b' <;> decide]
          exact this
  · rintro ⟨x, y, h'⟩ n ⟨b', e1, e2, e3, e4, e5, e6⟩
    dsimp only at e1 e2 e3 e4 e5
    subst e1
    subst e2
    show Q (fC_reckon_L34 K (nI i) (nI j) (nI (opM σ i)) (nI (opM σ j)) (nI (PP σ)) (nI s) (nI (((5 * i + j) * 9 + s) * 9)) (n + 1) (bI b') (nI (PP σ)) h')
    rw [fC_reckon_L34, if_pos (Int32.le_refl _)]
    exact hK b' h' e3 e4 (fun s' t' a1 a2 a3 a4 a5 => e5 s' t' a1 a2 a3 a4 (by rcases a5 with q | q; exact Or.inl q; exact Or.inr ⟨q, a2⟩)) (fun hb s' t' a1 a2 a3 a4 a5 => e6 hb s' t' a1 a2 a3 a4 (by rcases a5 with q | q; exact Or.inl q; exact Or.inr ⟨q, a2⟩))
end Reckon
