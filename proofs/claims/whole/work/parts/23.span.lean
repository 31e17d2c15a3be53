/-! THE CALL span; how many are forged, take part -/
section Span
variable {X : Sg → Hp → Prop} {σ : Sg} {h : Hp}
def qs (σ : Sg) (s c : Nat) : Bool := σ 12 c == s && (!(σ 11 c == 0) && tk σ (σ 6 c))
theorem m1_eq {a b : Nat} (ha : a < 2 ^ 30) (hb : b < 2 ^ 30) : (nI a - 1 = nI b - 1) ↔ a = b := by
  rw [← Int32.toInt_inj, show (1 : Int32) = nI 1 from rfl, pk_sub_toInt ha (by decide), pk_sub_toInt hb (by decide)]
  omega
theorem m1_lt {a b : Nat} (ha : a < 2 ^ 30) (hb : b < 2 ^ 30) : (nI a - 1 < nI b - 1) ↔ a < b := by
  rw [Int32.lt_iff_toInt_lt, show (1 : Int32) = nI 1 from rfl, pk_sub_toInt ha (by decide), pk_sub_toInt hb (by decide)]
  omega
theorem m1_le {a b : Nat} (ha : a < 2 ^ 30) (hb : b < 2 ^ 30) : (nI a - 1 ≤ nI b - 1) ↔ a ≤ b := by
  rw [Int32.le_iff_toInt_le, show (1 : Int32) = nI 1 from rfl, pk_sub_toInt ha (by decide), pk_sub_toInt hb (by decide)]
  omega
theorem m1_neg {a : Nat} (ha : a < 2 ^ 30) : (nI a - 1 < 0) ↔ a = 0 := by
  rw [Int32.lt_iff_toInt_lt, show (1 : Int32) = nI 1 from rfl, pk_sub_toInt ha (by decide), show (0 : Int32).toInt = 0 from rfl]
  omega
theorem m1_m1 {a : Nat} (ha : a < 2 ^ 30) : (nI a - 1 = -1) ↔ a = 0 := by
  rw [show (-1 : Int32) = nI 0 - 1 by decide]
  exact m1_eq ha (by decide)
theorem inSpan_eq {c s : Nat} (w : WF σ) (cs : CS σ h) (hc : c < σ 0 3) (hs : s ≤ 5) : fT_isInSpan h (nI c) (nI s) = some (bI (qs σ s c), h) := by
  obtain ⟨-, -, -, -, d1, d2⟩ := w.2.2.2.2.1 c hc
  unfold fT_isInSpan qs
  rw [copyFact_eq (W := 7) (w := 7) w cs hc rfl (by decide), cal_some, show cpF σ c 7 = nI (σ 12 c) from rfl]
  by_cases e : σ 12 c = s
  · rw [if_pos (by rw [e]), copyFact_eq (W := 6) (w := 6) w cs hc rfl (by decide), cal_some, show cpF σ c 6 = nI (σ 11 c) - 1 from rfl, show (σ 12 c == s) = true by simp [e]]
    by_cases e2 : σ 11 c = 0
    · rw [if_pos ((m1_m1 (by omega)).mpr e2), show (σ 11 c == 0) = true by simp [e2]]; rfl
    · rw [if_neg (fun q => e2 ((m1_m1 (by omega)).mp q)), show (σ 11 c == 0) = false by simp [e2], copyFact_eq (W := 0) (w := 0) w cs hc rfl (by decide), cal_some, show cpF σ c 0 = nI (σ 6 c) from rfl, takesPart_eq w cs (w.po hc).1, cal_some, if_b0]
      cases tk σ (σ 6 c) <;> rfl
  · rw [if_neg (fun q => e ((nI_eq (by omega) (by omega)).mp q)), show (σ 12 c == s) = false by simp [e]]; rfl
def eC (σ : Sg) (s : Nat) (e0 : Nat) : Nat → Nat
  | 0 => e0
  | i + 1 => if qs σ s i then min (eC σ s e0 i) (σ 11 i) else eC σ s e0 i
def lC (σ : Sg) (s : Nat) (l0 : Nat) : Nat → Nat
  | 0 => l0
  | i + 1 => if qs σ s i then max (lC σ s l0 i) (σ 11 i) else lC σ s l0 i
theorem eC_le (s e0 : Nat) : ∀ i, eC σ s e0 i ≤ e0
  | 0 => Nat.le_refl _
  | i + 1 => by
    have := eC_le s e0 i
    unfold eC
    split <;> omega
theorem lC_le {s l0 : Nat} (w : WF σ) (hl : l0 ≤ 1000) : ∀ {i}, i ≤ σ 0 3 → lC σ s l0 i ≤ 1000
  | 0, _ => hl
  | i + 1, hi => by
    have := lC_le (s := s) w hl (i := i) (by omega)
    have d := (w.2.2.2.2.1 i (by omega)).2.2.2.2.1
    unfold lC
    split <;> omega
/-- whatever was begun with, once there is one -/
theorem eC_same {s : Nat} (w : WF σ) : ∀ {i}, i ≤ σ 0 3 → 0 < cntP (qs σ s) i → eC σ s 1000 i = eC σ s 1001 i
  | 0, _, h => absurd h (Nat.lt_irrefl 0)
  | i + 1, hi, h => by
    have d := (w.2.2.2.2.1 i (by omega)).2.2.2.2.1
    have l1 := eC_le (σ := σ) s 1000 i
    have l2 := eC_le (σ := σ) s 1001 i
    rcases Nat.eq_zero_or_pos (cntP (qs σ s) i) with z | z
    · cases q : qs σ s i with
      | true =>
        have z1 : ∀ j e0, j ≤ i → eC σ s e0 j = e0 := by
          intro j e0
          induction j with
          | zero => intro _; rfl
          | succ j ih =>
            intro hj
            have hf : qs σ s j = false := by
              cases hq : qs σ s j with
              | false => rfl
              | true =>
                have key : ∀ n, j + 1 ≤ n → 0 < cntP (qs σ s) n := by
                  intro n hn
                  induction n with
                  | zero => omega
                  | succ n ihn =>
                    by_cases hjn : j = n
                    · subst hjn
                      rw [cntP_t hq]
                      omega
                    · have := ihn (by omega)
                      rw [show cntP (qs σ s) (n + 1) = cntP (qs σ s) n + (if qs σ s n then 1 else 0) from rfl]
                      omega
                have := key i hj
                omega
            rw [show eC σ s e0 (j + 1) = (if qs σ s j then min (eC σ s e0 j) (σ 11 j) else eC σ s e0 j) from rfl, hf, if_neg (by decide)]
            exact ih (by omega)
        rw [show eC σ s 1000 (i + 1) = (if qs σ s i then min (eC σ s 1000 i) (σ 11 i) else eC σ s 1000 i) from rfl, show eC σ s 1001 (i + 1) = (if qs σ s i then min (eC σ s 1001 i) (σ 11 i) else eC σ s 1001 i) from rfl, q, if_pos rfl, if_pos rfl, z1 i 1000 (Nat.le_refl _), z1 i 1001 (Nat.le_refl _)]
        omega
      | false =>
        rw [cntP_f q] at h
        omega
    · have ih := eC_same (s := s) w (i := i) (by omega) z
      rw [show eC σ s 1000 (i + 1) = (if qs σ s i then min (eC σ s 1000 i) (σ 11 i) else eC σ s 1000 i) from rfl, show eC σ s 1001 (i + 1) = (if qs σ s i then min (eC σ s 1001 i) (σ 11 i) else eC σ s 1001 i) from rfl, ih]
theorem lC_same {s : Nat} : ∀ {i}, 0 < cntP (qs σ s) i → lC σ s 1 i = lC σ s 0 i
  | 0, h => absurd h (Nat.lt_irrefl 0)
  | i + 1, h => by
    have hd : qs σ s i = true → 1 ≤ σ 11 i := fun q => by
      unfold qs at q
      rw [Bool.and_eq_true, Bool.and_eq_true] at q
      have := q.2.1
      simp at this
      omega
    have mono : ∀ j, lC σ s 0 j ≤ lC σ s 1 j ∧ lC σ s 1 j ≤ max 1 (lC σ s 0 j) := by
      intro j
      induction j with
      | zero => exact ⟨show 0 ≤ 1 by decide, show 1 ≤ max 1 0 by decide⟩
      | succ j ih =>
        unfold lC
        split <;> omega
    have m := mono i
    rw [show lC σ s 1 (i + 1) = (if qs σ s i then max (lC σ s 1 i) (σ 11 i) else lC σ s 1 i) from rfl, show lC σ s 0 (i + 1) = (if qs σ s i then max (lC σ s 0 i) (σ 11 i) else lC σ s 0 i) from rfl]
    cases q : qs σ s i with
    | true =>
      have := hd q
      rw [if_pos rfl, if_pos rfl]
      omega
    | false =>
      rw [cntP_f q] at h
      rw [if_neg (by decide), if_neg (by decide)]
      exact lC_same h
theorem dated_eq {s : Nat} (w : WF σ) (cs : CS σ h) (hs : s ≤ 5) : fT_datedOf h (nI s) = some (nI (cntP (qs σ s) (σ 0 3)), h) := by
  have hnc := w.nc_le
  have e3 := cs.1 3 (by decide)
  unfold fT_datedOf
  exact loopS (fun m (x : Int32 × Int32 × Hp) => fT_datedOf_L4 (nI s) m x.1 x.2.1 x.2.2) (fun i => (nI (cntP (qs σ s) i), nI i, h)) (some (nI (cntP (qs σ s) (σ 0 3)), h)) (σ 0 3) (by omega) (by
    intro i m hi
    simp only [fT_datedOf_L4, jn]
    rw [if_neg (fun q => by rw [e3] at q; have := (n_le rfl rfl (by omega) (by omega)).mp q; omega), inSpan_eq w cs hi hs, cal_some, if_b0, n_s1, n_s1]
    cases q : qs σ s i with
    | true => rw [cntP_t q]; rfl
    | false => rw [cntP_f q]; rfl) (by
    intro m
    simp only [fT_datedOf_L4]
    rw [if_pos (by rw [e3]; exact Int32.le_refl _)]
    rfl) 0 (by omega)
theorem earliest_eq {s : Nat} (w : WF σ) (cs : CS σ h) (hs : s ≤ 5) : fT_earliestOf h (nI s) = some (nI (eC σ s 1000 (σ 0 3)) - 1, h) := by
  have hnc := w.nc_le
  have e3 := cs.1 3 (by decide)
  unfold fT_earliestOf
  have q := loopS (fun m (x : Int32 × Int32 × Hp) => fT_earliestOf_L6 (nI s) m x.1 x.2.1 x.2.2) (fun i => (nI (eC σ s 1000 i) - 1, nI i, h)) (some (nI (eC σ s 1000 (σ 0 3)) - 1, h)) (σ 0 3) (by omega) (by
    intro i m hi
    have l1 := eC_le (σ := σ) s 1000 i
    have d := (w.2.2.2.2.1 i hi).2.2.2.2.1
    simp only [fT_earliestOf_L6, jn, bnd]
    rw [if_neg (fun q => by rw [e3] at q; have := (n_le rfl rfl (by omega) (by omega)).mp q; omega), inSpan_eq w cs hi hs, cal_some, if_b0, n_s1]
    rw [show eC σ s 1000 (i + 1) = (if qs σ s i then min (eC σ s 1000 i) (σ 11 i) else eC σ s 1000 i) from rfl]
    cases q : qs σ s i with
    | true =>
      rw [cond_true, if_pos rfl, copyFact_eq (W := 6) (w := 6) w cs hi rfl (by decide), cal_some, show cpF σ i 6 = nI (σ 11 i) - 1 from rfl]
      unfold mnI
      by_cases c : σ 11 i < eC σ s 1000 i
      · rw [if_pos ((m1_lt (by omega) (by omega)).mpr c), Nat.min_eq_right (by omega)]
      · rw [if_neg (fun q => c ((m1_lt (by omega) (by omega)).mp q)), Nat.min_eq_left (by omega)]
    | false => rfl) (by
    intro m
    simp only [fT_earliestOf_L6]
    rw [if_pos (by rw [e3]; exact Int32.le_refl _)]
    rfl) 0 (by omega)
  have e : nI (eC σ s 1000 0) - 1 = 999 := by show nI 1000 - 1 = 999; decide
  have q2 : fT_earliestOf_L6 (nI s) FU (nI (eC σ s 1000 0) - 1) (nI 0) h = _ := q
  rw [e] at q2
  exact q2
theorem latest_eq {s : Nat} (w : WF σ) (cs : CS σ h) (hs : s ≤ 5) : fT_latestOf h (nI s) = some (nI (lC σ s 1 (σ 0 3)) - 1, h) := by
  have hnc := w.nc_le
  have e3 := cs.1 3 (by decide)
  unfold fT_latestOf
  have q := loopS (fun m (x : Int32 × Int32 × Hp) => fT_latestOf_L4 (nI s) m x.1 x.2.1 x.2.2) (fun i => (nI (lC σ s 1 i) - 1, nI i, h)) (some (nI (lC σ s 1 (σ 0 3)) - 1, h)) (σ 0 3) (by omega) (by
    intro i m hi
    have l1 := lC_le (s := s) (l0 := 1) w (by decide) (i := i) (by omega)
    have d := (w.2.2.2.2.1 i hi).2.2.2.2.1
    simp only [fT_latestOf_L4, jn, bnd]
    rw [if_neg (fun q => by rw [e3] at q; have := (n_le rfl rfl (by omega) (by omega)).mp q; omega), inSpan_eq w cs hi hs, cal_some, if_b0, n_s1]
    rw [show lC σ s 1 (i + 1) = (if qs σ s i then max (lC σ s 1 i) (σ 11 i) else lC σ s 1 i) from rfl]
    cases q : qs σ s i with
    | true =>
      rw [cond_true, if_pos rfl, copyFact_eq (W := 6) (w := 6) w cs hi rfl (by decide), cal_some, show cpF σ i 6 = nI (σ 11 i) - 1 from rfl]
      unfold mxI
      by_cases c : lC σ s 1 i < σ 11 i
      · rw [if_pos ((m1_lt (by omega) (by omega)).mpr c), Nat.max_eq_right (by omega)]
      · rw [if_neg (fun q => c ((m1_lt (by omega) (by omega)).mp q)), Nat.max_eq_left (by omega)]
    | false => rfl) (by
    intro m
    simp only [fT_latestOf_L4]
    rw [if_pos (by rw [e3]; exact Int32.le_refl _)]
    rfl) 0 (by omega)
  have e : nI (lC σ s 1 0) - 1 = 0 := by show nI 1 - 1 = 0; decide
  have q2 : fT_latestOf_L4 (nI s) FU (nI (lC σ s 1 0) - 1) (nI 0) h = _ := q
  rw [e] at q2
  exact q2
theorem mspan_eq {s : Nat} {K : Int32 → Int32 → Int32 → Hp → RO} {x2 : Int32} (w : WF σ) (ms : MS σ h) (hs : s ≤ 5) : fM_span_L33 K (nI s) x2 FU 0 1000 (-1) 0 h = K (nI (cntP (qs σ s) (σ 0 3))) (nI (eC σ s 1001 (σ 0 3)) - 1) (nI (lC σ s 0 (σ 0 3)) - 1) h := by
  have hnc := w.nc_le
  have q := loopS (fun m (x : Int32 × Int32 × Int32 × Int32 × Hp) => fM_span_L33 K (nI s) x2 m x.1 x.2.1 x.2.2.1 x.2.2.2.1 x.2.2.2.2) (fun i => (nI (cntP (qs σ s) i), nI (eC σ s 1001 i) - 1, nI (lC σ s 0 i) - 1, nI i, h)) (K (nI (cntP (qs σ s) (σ 0 3))) (nI (eC σ s 1001 (σ 0 3)) - 1) (nI (lC σ s 0 (σ 0 3)) - 1) h) (σ 0 3) (by omega) (by
    intro i m hi
    have l1 := eC_le (σ := σ) s 1001 i
    have l2 := lC_le (s := s) (l0 := 0) w (by decide) (i := i) (by omega)
    obtain ⟨-, -, -, -, d, d2⟩ := w.2.2.2.2.1 i hi
    simp only [fM_span_L33, jn]
    rw [if_neg (fun q => by rw [ms.nc] at q; have := (n_le rfl rfl (by omega) (by omega)).mp q; omega), rd_at i 30 rfl rfl (by omega), ms.a12 (by omega), n_s1, n_s1]
    rw [show eC σ s 1001 (i + 1) = (if qs σ s i then min (eC σ s 1001 i) (σ 11 i) else eC σ s 1001 i) from rfl, show lC σ s 0 (i + 1) = (if qs σ s i then max (lC σ s 0 i) (σ 11 i) else lC σ s 0 i) from rfl]
    by_cases e : σ 12 i = s
    · rw [if_pos (by rw [e]), rd_at i 30 rfl rfl (by omega), ms.a11 (by omega)]
      by_cases e2 : σ 11 i = 0
      · have qf : qs σ s i = false := by unfold qs; simp [e2]
        rw [if_pos ((m1_neg (by omega)).mpr e2), cntP_f qf, qf]; rfl
      · rw [if_neg (fun q => e2 ((m1_neg (by omega)).mp q)), rd_at i 30 rfl rfl (by omega), ms.a6 (by omega), mtakes_eq w ms (w.po hi).1, cal_some, if_b0]
        have qe : qs σ s i = tk σ (σ 6 i) := by unfold qs; simp [e, e2]
        cases q : tk σ (σ 6 i) with
        | false =>
          rw [q] at qe
          rw [cond_false, cntP_f qe, qe]; rfl
        | true =>
          rw [q] at qe
          rw [cond_true, cntP_t qe, qe, if_pos rfl, if_pos rfl, rd_at i 30 rfl rfl (by omega), ms.a11 (by omega)]
          have t2 : ∀ (z : Int32), (rd h 39 (nI i) (fun r112 => if r112 ≤ nI (lC σ s 0 i) - 1 then fM_span_L33 K (nI s) x2 m (nI (cntP (qs σ s) i + 1)) z (nI (lC σ s 0 i) - 1) (nI (i + 1)) h else rd h 39 (nI i) (fun r124 => fM_span_L33 K (nI s) x2 m (nI (cntP (qs σ s) i + 1)) z r124 (nI (i + 1)) h))) = fM_span_L33 K (nI s) x2 m (nI (cntP (qs σ s) i + 1)) z (nI (max (lC σ s 0 i) (σ 11 i)) - 1) (nI (i + 1)) h := by
            intro z
            rw [rd_at i 30 rfl rfl (by omega), ms.a11 (by omega)]
            by_cases c : σ 11 i ≤ lC σ s 0 i
            · rw [if_pos ((m1_le (by omega) (by omega)).mpr c), Nat.max_eq_left c]
            · rw [if_neg (fun q => c ((m1_le (by omega) (by omega)).mp q)), rd_at i 30 rfl rfl (by omega), ms.a11 (by omega), Nat.max_eq_right (by omega)]
          rw [t2]
          by_cases c : eC σ s 1001 i ≤ σ 11 i
          · rw [if_pos ((m1_le (by omega) (by omega)).mpr c), Nat.min_eq_left c]
          · rw [if_neg (fun q => c ((m1_le (by omega) (by omega)).mp q)), rd_at i 30 rfl rfl (by omega), ms.a11 (by omega), t2, Nat.min_eq_right (by omega)]
    · have qf : qs σ s i = false := by unfold qs; simp [e]
      rw [if_neg (fun q => e ((nI_eq (by omega) (by omega)).mp q)), cntP_f qf, qf]; rfl) (by
    intro m
    simp only [fM_span_L33]
    rw [if_pos (by rw [ms.nc]; exact Int32.le_refl _)]) 0 (by omega)
  have q2 : fM_span_L33 K (nI s) x2 FU (nI 0) (nI (eC σ s 1001 0) - 1) (nI (lC σ s 0 0) - 1) (nI 0) h = _ := q
  rw [show nI (eC σ s 1001 0) - 1 = 1000 by show nI 1001 - 1 = 1000; decide, show nI (lC σ s 0 0) - 1 = -1 by show nI 0 - 1 = -1; decide] at q2
  exact q2
theorem ag_span (a b : Int32) : Agr (InvX X) (fun h => fX_span h a b) (fun h => fM_span h a b) := by
  rintro h ⟨σ, w, ms, cs, kp, ho, ch⟩
  have hnc := w.nc_le
  have inv : InvX X h := ⟨σ, w, ms, cs, kp, ho, ch⟩
  dsimp only
  cases hc : wn a 0 5 with
  | false => exact ⟨-1, h, h, by unfold fX_span; rw [isShade_eq, cal_some, if_b0, hc]; rfl, by unfold fM_span; rw [in_eq, cal_some, if_b0, hc]; rfl, inv⟩
  | true =>
    have hc0 := hc
    obtain ⟨s, -, hs, rfl⟩ := (wn_nat (A := 0) (B := 5) (a := 0) (b := 5) rfl rfl (by omega) (by omega)).mp hc
    cases hv : wn b 0 2 with
    | false => exact ⟨-1, h, h, by unfold fX_span; rw [isShade_eq, cal_some, if_b0, hc0, cond_true, isWithin_eq, cal_some, if_b0, hv]; rfl, by unfold fM_span; rw [in_eq, cal_some, if_b0, hc0, cond_true, in_eq, cal_some, if_b0, hv]; rfl, inv⟩
    | true =>
      have hv0 := hv
      obtain ⟨t, -, ht, rfl⟩ := (wn_nat (A := 0) (B := 2) (a := 0) (b := 2) rfl rfl (by omega) (by omega)).mp hv
      have hcn := cntP_le (qs σ s) (σ 0 3)
      have ex : fX_span h (nI s) (nI t) = (if nI t = 2 then ret1 (nI (cntP (qs σ s) (σ 0 3))) h else if nI (cntP (qs σ s) (σ 0 3)) = 0 then ret1 (-4) h else if nI t = 0 then ret1 (nI (eC σ s 1000 (σ 0 3)) - 1) h else ret1 (nI (lC σ s 1 (σ 0 3)) - 1) h) := by
        unfold fX_span
        rw [isShade_eq, cal_some, if_b0, hc0, cond_true, isWithin_eq, cal_some, if_b0, hv0, cond_true, dated_eq w cs hs, cal_some, earliest_eq w cs hs, latest_eq w cs hs]
        rfl
      have em : fM_span h (nI s) (nI t) = (if nI t = 2 then ret1 (nI (cntP (qs σ s) (σ 0 3))) h else if nI (cntP (qs σ s) (σ 0 3)) = 0 then ret1 (-4) h else if nI t = 0 then ret1 (nI (eC σ s 1001 (σ 0 3)) - 1) h else ret1 (nI (lC σ s 0 (σ 0 3)) - 1) h) := by
        unfold fM_span
        rw [in_eq, cal_some, if_b0, hc0, cond_true, in_eq, cal_some, if_b0, hv0, cond_true, mspan_eq w ms hs]
      have key : ∃ r, (if nI t = 2 then ret1 (nI (cntP (qs σ s) (σ 0 3))) h else if nI (cntP (qs σ s) (σ 0 3)) = 0 then ret1 (-4) h else if nI t = 0 then ret1 (nI (eC σ s 1000 (σ 0 3)) - 1) h else ret1 (nI (lC σ s 1 (σ 0 3)) - 1) h) = some (r, h) ∧ (if nI t = 2 then ret1 (nI (cntP (qs σ s) (σ 0 3))) h else if nI (cntP (qs σ s) (σ 0 3)) = 0 then ret1 (-4) h else if nI t = 0 then ret1 (nI (eC σ s 1001 (σ 0 3)) - 1) h else ret1 (nI (lC σ s 0 (σ 0 3)) - 1) h) = some (r, h) := by
        by_cases c2 : nI t = 2
        · rw [if_pos c2, if_pos c2]; exact ⟨_, rfl, rfl⟩
        · rw [if_neg c2, if_neg c2]
          by_cases c0 : cntP (qs σ s) (σ 0 3) = 0
          · rw [if_pos (by rw [c0]; rfl), if_pos (by rw [c0]; rfl)]; exact ⟨_, rfl, rfl⟩
          · have cp : ¬ nI (cntP (qs σ s) (σ 0 3)) = 0 := nI_ne0 (by omega) (by omega)
            rw [if_neg cp, if_neg cp, eC_same w (Nat.le_refl _) (by omega), lC_same (by omega)]
            by_cases c1 : nI t = 0
            · rw [if_pos c1]; exact ⟨_, rfl, rfl⟩
            · rw [if_neg c1]; exact ⟨_, rfl, rfl⟩
      obtain ⟨r, k1, k2⟩ := key
      exact ⟨r, h, h, ex.trans k1, em.trans k2, inv⟩
theorem forgedN_eq (w : WF σ) (cs : CS σ h) : fT_forgedPieces h = some (nI (cntP (fgP σ) (σ 0 2)), h) := by
  have hnp := w.1.2.2.2.2.2.1
  have e3 := cs.1 2 (by decide)
  unfold fT_forgedPieces
  exact loopS (fun m (x : Int32 × Int32 × Hp) => fT_forgedPieces_L4 m x.1 x.2.1 x.2.2) (fun i => (nI (cntP (fgP σ) i), nI i, h)) (some (nI (cntP (fgP σ) (σ 0 2)), h)) (σ 0 2) (by omega) (by
    intro i m hi
    simp only [fT_forgedPieces_L4, jn]
    rw [if_neg (fun q => by rw [e3] at q; have := (n_le rfl rfl (by omega) (by omega)).mp q; omega), isForged_eq w cs hi, cal_some, if_b0, n_s1, n_s1]
    cases q : fgP σ i with
    | true => rw [cntP_t q]; rfl
    | false => rw [cntP_f q]; rfl) (by
    intro m
    simp only [fT_forgedPieces_L4]
    rw [if_pos (by rw [e3]; exact Int32.le_refl _)]
    rfl) 0 (by omega)
theorem takingN_eq (w : WF σ) (cs : CS σ h) : fT_takingPieces h = some (nI (cntP (tk σ) (σ 0 2)), h) := by
  have hnp := w.1.2.2.2.2.2.1
  have e3 := cs.1 2 (by decide)
  unfold fT_takingPieces
  exact loopS (fun m (x : Int32 × Int32 × Hp) => fT_takingPieces_L4 m x.1 x.2.1 x.2.2) (fun i => (nI (cntP (tk σ) i), nI i, h)) (some (nI (cntP (tk σ) (σ 0 2)), h)) (σ 0 2) (by omega) (by
    intro i m hi
    simp only [fT_takingPieces_L4, jn]
    rw [if_neg (fun q => by rw [e3] at q; have := (n_le rfl rfl (by omega) (by omega)).mp q; omega), takesPart_eq w cs hi, cal_some, if_b0, n_s1, n_s1]
    cases q : tk σ i with
    | true => rw [cntP_t q]; rfl
    | false => rw [cntP_f q]; rfl) (by
    intro m
    simp only [fT_takingPieces_L4]
    rw [if_pos (by rw [e3]; exact Int32.le_refl _)]
    rfl) 0 (by omega)
theorem mforgedN_eq (w : WF σ) (ms : MS σ h) : fM_forged h = some (nI (cntP (fgP σ) (σ 0 2)), h) := by
  have hnp := w.1.2.2.2.2.2.1
  unfold fM_forged
  exact loopS (fun m (x : Int32 × Int32 × Hp) => fM_forged_L4 m x.1 x.2.1 x.2.2) (fun i => (nI (cntP (fgP σ) i), nI i, h)) (some (nI (cntP (fgP σ) (σ 0 2)), h)) (σ 0 2) (by omega) (by
    intro i m hi
    simp only [fM_forged_L4, jn, bnd]
    rw [if_neg (fun q => by rw [ms.np] at q; have := (n_le rfl rfl (by omega) (by omega)).mp q; omega), mforged_eq w ms hi, cal_some, if_b0, nI_z, n_s1, n_s1]
    cases q : fgP σ i with
    | true => rw [cntP_t q]; rfl
    | false => rw [cntP_f q]; rfl) (by
    intro m
    simp only [fM_forged_L4]
    rw [if_pos (by rw [ms.np]; exact Int32.le_refl _)]
    rfl) 0 (by omega)
theorem mtakingN_eq (w : WF σ) (ms : MS σ h) : fM_taking h = some (nI (cntP (tk σ) (σ 0 2)), h) := by
  have hnp := w.1.2.2.2.2.2.1
  unfold fM_taking
  exact loopS (fun m (x : Int32 × Int32 × Hp) => fM_taking_L4 m x.1 x.2.1 x.2.2) (fun i => (nI (cntP (tk σ) i), nI i, h)) (some (nI (cntP (tk σ) (σ 0 2)), h)) (σ 0 2) (by omega) (by
    intro i m hi
    simp only [fM_taking_L4, jn, bnd]
    rw [if_neg (fun q => by rw [ms.np] at q; have := (n_le rfl rfl (by omega) (by omega)).mp q; omega), mtakes_eq w ms hi, cal_some, if_b0, nI_z, n_s1, n_s1]
    cases q : tk σ i with
    | true => rw [cntP_t q]; rfl
    | false => rw [cntP_f q]; rfl) (by
    intro m
    simp only [fM_taking_L4]
    rw [if_pos (by rw [ms.np]; exact Int32.le_refl _)]
    rfl) 0 (by omega)
end Span
