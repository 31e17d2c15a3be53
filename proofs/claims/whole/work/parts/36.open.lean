/-! THE CLASS OPENS THE SPOTS AND READS THE COPIES -/
section Open
variable {σ : Sg} {h : Hp}
/-- the class's State stays -/
theorem CSt.keep {h' : Hp} (cs : CS σ h) (hk : ∀ k, k = 1 ∨ k = 6 ∨ k = 7 ∨ k = 8 → h' k = h k) : CS σ h' := cs.congr (fun i _ => by rw [hk 1 (by omega)]) (hk 6 (by omega)) (hk 7 (by omega)) (hk 8 (by omega))
def opM (σ : Sg) (p : Nat) : Nat := if tkp σ p then spM σ p else 0
def allO (σ : Sg) (p : Nat) : Bool := !tkp σ p || !(spM σ p == 0)
theorem spM_lt (w : WF σ) (p : Nat) : spM σ p < 512 := by
  have := PP_le w
  have h1 := msk_lt (ft σ p) (PP σ)
  have h2 : 2 ^ PP σ ≤ 2 ^ 9 := Nat.pow_le_pow_right (by decide) this.2
  exact Nat.lt_of_lt_of_le h1 h2
theorem opM_lt (w : WF σ) (p : Nat) : opM σ p < 512 := by
  unfold opM
  split
  · exact spM_lt w p
  · decide
theorem bI_and (a b : Bool) : bI a &&& bI b = bI (a && b) := by cases a <;> cases b <;> decide
theorem openSpots_eq (w : WF σ) (cs : CS σ h) : ∃ h', fS_openSpots h = some (bI (alP (allO σ) 5), h') ∧ (∀ k, k ≠ 13 → k ≠ 16 → k ≠ 17 → h' k = h k) ∧ ∀ p, p < 5 → h' 13 p = bI (tkp σ p) ∧ h' 16 p = nI (opM σ p) ∧ h' 17 p = 0 := by
  have hnp := w.1.2.2.2.2.2.1
  unfold fS_openSpots
  refine loopK (fun n (a : Int32 × Int32 × Hp) => fS_openSpots_L4 n a.1 a.2.1 a.2.2) (fun i a => a.1 = bI (alP (allO σ) i) ∧ a.2.1 = nI i ∧ (∀ k, k ≠ 13 → k ≠ 16 → k ≠ 17 → a.2.2 k = h k) ∧ ∀ p, p < i → a.2.2 13 p = bI (tkp σ p) ∧ a.2.2 16 p = nI (opM σ p) ∧ a.2.2 17 p = 0) (fun o => ∃ h', o = some (bI (alP (allO σ) 5), h') ∧ (∀ k, k ≠ 13 → k ≠ 16 → k ≠ 17 → h' k = h k) ∧ ∀ p, p < 5 → h' 13 p = bI (tkp σ p) ∧ h' 16 p = nI (opM σ p) ∧ h' 17 p = 0) 5 (by omega) ?_ ?_ 0 (1, 0, h) (by omega) ⟨rfl, rfl, fun _ _ _ _ => rfl, fun p hp => by omega⟩
  · rintro i ⟨x, y, h'⟩ n hi ⟨e1, e2, e3, e4⟩ hn
    dsimp only at e1 e2 e3 e4
    subst e1
    subst e2
    have cs' : CS σ h' := cs.keep (fun k hk => e3 k (by omega) (by omega) (by omega))
    show ∃ h2, fS_openSpots_L4 (n + 1) (bI (alP (allO σ) i)) (nI i) h' = some (_, h2) ∧ _
    rw [fS_openSpots_L4, if_neg (fun q => by have := (n_le (X := 5) (a := 5) rfl rfl (by omega) (by omega)).mp q; omega), hasPiece_eq cs', cal_some, jn_eq, jn_eq]
    -- once it is known whether the piece takes part
    have fin : ∃ h2, (wrz h' 13 (nI i) (bI (tkp σ i)) (fun h41 =>
      rdz h41 13 (nI i) (fun r52 =>
      jn (τ := Int32 → Hp → RO) (fun s68 h68 =>
      wr h68 16 (nI i) s68 (fun h68 =>
      wr h68 17 (nI i) 0 (fun h75 =>
      rdz h75 13 (nI i) (fun r82 =>
      jn (τ := Int32 → Hp → RO) (fun s100 h100 =>
      bnd (bI (alP (allO σ) i) &&& s100) (fun v101 =>
      fS_openSpots_L4 n v101 (nI i + 1) h100)) (fun j100 =>
      jn (τ := Hp → RO) (fun h95 =>
      j100 1 h95) (fun j95 =>
      (if r82 = 0 then
      j95 h75
      else
      rd h75 16 (nI i) (fun r91 =>
      (if r91 = 0 then
      j100 0 h75
      else
      j95 h75))))))))) (fun j68 =>
      (if r52 = 0 then
      j68 0 h41
      else
      cal (fT_spotsOf h41 (nI i)) (fun r61 h61 =>
      j68 r61 h61)))))) = some (bI (alP (allO σ) 5), h2) ∧ (∀ k, k ≠ 13 → k ≠ 16 → k ≠ 17 → h2 k = h k) ∧ ∀ p, p < 5 → h2 13 p = bI (tkp σ p) ∧ h2 16 p = nI (opM σ p) ∧ h2 17 p = 0 := by
      rw [wrz_at i 5 rfl rfl hi (bI_01 _), rdz_at i 5 rfl rfl hi, up_k, upd_same, jn_eq, if_b0]
      have cs1 : CS σ (up h' 13 i (bI (tkp σ i))) := cs'.keep (fun k hk => up_ne h' (by omega) _ _)
      have spo : (bif tkp σ i then cal (fT_spotsOf (up h' 13 i (bI (tkp σ i))) (nI i)) (fun r61 h61 => wr h61 16 (nI i) r61 (fun h68 =>
      wr h68 17 (nI i) 0 (fun h75 =>
      rdz h75 13 (nI i) (fun r82 =>
      jn (τ := Int32 → Hp → RO) (fun s100 h100 =>
      bnd (bI (alP (allO σ) i) &&& s100) (fun v101 =>
      fS_openSpots_L4 n v101 (nI i + 1) h100)) (fun j100 =>
      jn (τ := Hp → RO) (fun h95 =>
      j100 1 h95) (fun j95 =>
      (if r82 = 0 then
      j95 h75
      else
      rd h75 16 (nI i) (fun r91 =>
      (if r91 = 0 then
      j100 0 h75
      else
      j95 h75)))))))) ) else wr (up h' 13 i (bI (tkp σ i))) 16 (nI i) 0 (fun h68 =>
      wr h68 17 (nI i) 0 (fun h75 =>
      rdz h75 13 (nI i) (fun r82 =>
      jn (τ := Int32 → Hp → RO) (fun s100 h100 =>
      bnd (bI (alP (allO σ) i) &&& s100) (fun v101 =>
      fS_openSpots_L4 n v101 (nI i + 1) h100)) (fun j100 =>
      jn (τ := Hp → RO) (fun h95 =>
      j100 1 h95) (fun j95 =>
      (if r82 = 0 then
      j95 h75
      else
      rd h75 16 (nI i) (fun r91 =>
      (if r91 = 0 then
      j100 0 h75
      else
      j95 h75)))))))) ) = fS_openSpots_L4 n (bI (alP (allO σ) (i + 1))) (nI (i + 1)) (up (up (up h' 13 i (bI (tkp σ i))) 16 i (nI (opM σ i))) 17 i 0) := by
        have ha : alP (allO σ) (i + 1) = (alP (allO σ) i && allO σ i) := rfl
        rw [ha, n_s1]
        cases ht : tkp σ i with
        | false =>
          rw [cond_false, wr_at i 5 rfl rfl hi, wr_at i 5 rfl rfl hi, rdz_at i 5 rfl rfl hi, up_ne _ (show 13 ≠ 17 by decide), up_ne _ (show 13 ≠ 16 by decide), up_k, upd_same, jn_eq, jn_eq, if_pos (show bI false = 0 from rfl)]
          dsimp only [bnd]
          rw [show allO σ i = true by unfold allO; rw [ht]; rfl, ← bI_and, show opM σ i = 0 by unfold opM; rw [ht]; rfl]
          rfl
        | true =>
          have hp := (tkp_lt ht).1
          rw [ht] at cs1
          rw [cond_true, spotsOf_eq w cs1 hp, cal_some, wr_at i 5 rfl rfl hi, wr_at i 5 rfl rfl hi, rdz_at i 5 rfl rfl hi, up_ne _ (show 13 ≠ 17 by decide), up_ne _ (show 13 ≠ 16 by decide), up_k, upd_same, jn_eq, jn_eq, if_neg (show ¬ bI true = 0 by decide), rd_at i 5 rfl rfl hi, up_ne _ (show 16 ≠ 17 by decide), up_k, upd_same]
          have hlt := spM_lt w i
          dsimp only [bnd]
          rw [show opM σ i = spM σ i by unfold opM; rw [ht]; rfl]
          by_cases z : spM σ i = 0
          · rw [if_pos (by rw [z]; rfl), show allO σ i = false by unfold allO; rw [ht, z]; rfl, ← bI_and]
            rfl
          · rw [if_neg (nI_ne0 (by omega) (by omega)), show allO σ i = true by unfold allO; rw [ht]; simp [z], ← bI_and]
            rfl
      dsimp only
      rw [spo]
      refine hn (_, nI (i + 1), up (up (up h' 13 i (bI (tkp σ i))) 16 i (nI (opM σ i))) 17 i 0) ?_
      dsimp only
      refine ⟨rfl, rfl, fun k k1 k2 k3 => by rw [up_ne _ k3, up_ne _ k2, up_ne _ k1]; exact e3 k k1 k2 k3, fun p hp => ?_⟩
      rw [up_ne _ (show 13 ≠ 17 by decide), up_ne _ (show 13 ≠ 16 by decide), up_k, up_ne _ (show 16 ≠ 17 by decide), up_k, up_ne h' (show 16 ≠ 13 by decide), up_k, up_ne _ (show 17 ≠ 16 by decide), up_ne _ (show 17 ≠ 13 by decide)]
      by_cases q : p = i
      · rw [q, upd_same, upd_same, upd_same]
        exact ⟨rfl, rfl, rfl⟩
      · rw [upd_ne q, upd_ne q, upd_ne q]
        exact e4 p (by omega)
    rw [if_b0]
    cases hc : wn (nI i) 0 (nI (σ 0 2) - 1) with
    | false =>
      have : tkp σ i = false := by
        cases q : tkp σ i with
        | false => rfl
        | true =>
          rw [wn_cnt_t (by omega) (tkp_lt q).1] at hc
          exact absurd hc (by decide)
      rw [this] at fin
      exact fin
    | true =>
      obtain ⟨j, j1, j2⟩ := (wn_cnt (by omega)).mp hc
      have hji : i = j := (nI_eq (by omega) (by omega)).mp j2
      have hlt : i < σ 0 2 := by omega
      rw [cond_true, takesPart_eq w cs' hlt, cal_some, if_b0, ← tkp_of hlt]
      cases q : tkp σ i with
      | false =>
        rw [q] at fin
        exact fin
      | true =>
        rw [q] at fin
        exact fin
  · rintro ⟨x, y, h'⟩ n ⟨e1, e2, e3, e4⟩
    dsimp only at e1 e2 e3 e4
    subst e1
    subst e2
    show ∃ h2, fS_openSpots_L4 (n + 1) (bI (alP (allO σ) 5)) (nI 5) h' = some (_, h2) ∧ _
    rw [fS_openSpots_L4, if_pos (show (5 : Int32) ≤ nI 5 by decide), retz_b]
    exact ⟨h', rfl, e3, e4⟩
end Open
