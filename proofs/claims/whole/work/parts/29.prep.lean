/-! THE REFERENCE PREPARES: parts, where they may lie, their quarrels -/
/-- takes part -/
def tkp (σ : Sg) (p : Nat) : Bool := decide (p < σ 0 2) && tk σ p
def PP (σ : Sg) : Nat := σ 0 0 * σ 0 1
/-- the rank of a piece among those that take part; how many these are -/
abbrev rk (σ : Sg) (p : Nat) : Nat := cntP (tkp σ) p
def mm (σ : Sg) : Nat := cntP (tkp σ) 5
def qv (σ : Sg) (i s j t : Nat) : Nat := if ft σ i s && ft σ j t then cl σ i s j t else 0
/-- what the reference's search may change -/
def FrS (h h' : Hp) : Prop := (∀ k, k < 48 → k ≠ 28 → h' k = h k) ∧ ∀ j, j < 25 → h' 28 j = h 28 j
theorem FrS.refl (h : Hp) : FrS h h := ⟨fun _ _ _ => rfl, fun _ _ => rfl⟩
theorem FrS.trans {h h1 h2 : Hp} (a : FrS h h1) (b : FrS h1 h2) : FrS h h2 := ⟨fun k k1 k2 => (b.1 k k1 k2).trans (a.1 k k1 k2), fun j hj => (b.2 j hj).trans (a.2 j hj)⟩
theorem FrS.w48 {h h1 : Hp} (a : FrS h h1) {k : Nat} (j : Nat) (v : Int32) (hk : 48 ≤ k) : FrS h (up h1 k j v) := ⟨fun k' k1 k2 => by rw [up_ne h1 (by omega)]; exact a.1 k' k1 k2, fun j' hj => by rw [up_ne h1 (by omega)]; exact a.2 j' hj⟩
theorem FrS.w28 {h h1 : Hp} (a : FrS h h1) {j : Nat} (v : Int32) (hj : 25 ≤ j) : FrS h (up h1 28 j v) := ⟨fun k' k1 k2 => by rw [up_ne h1 k2]; exact a.1 k' k1 k2, fun j' hj' => by rw [up_k, upd_ne (by omega)]; exact a.2 j' hj'⟩
theorem FrS.ms {σ : Sg} {h h1 : Hp} (a : FrS h h1) (ms : MS σ h) : MS σ h1 := ms.congr (fun j hj _ => a.2 j (by omega)) (fun k k1 k2 => a.1 k (by omega) (by omega))
theorem cntP_ex {f : Nat → Bool} : ∀ {n a : Nat}, a < cntP f n → ∃ i, i < n ∧ f i = true ∧ cntP f i = a
  | 0, a, h => absurd h (Nat.not_lt_zero a)
  | n + 1, a, h => by
    by_cases h1 : a < cntP f n
    · obtain ⟨i, a1, a2, a3⟩ := cntP_ex h1
      exact ⟨i, by omega, a2, a3⟩
    · cases hf : f n with
      | true =>
        rw [cntP_t hf] at h
        exact ⟨n, by omega, hf, by omega⟩
      | false =>
        rw [cntP_f hf] at h
        exact absurd h h1
section Prep
variable {σ : Sg} {h : Hp}
theorem tkp_lt {p : Nat} (h1 : tkp σ p = true) : p < σ 0 2 ∧ tk σ p = true := by
  unfold tkp at h1
  rw [Bool.and_eq_true, decide_eq_true_eq] at h1
  exact h1
theorem tkp_of {p : Nat} (h1 : p < σ 0 2) : tkp σ p = tk σ p := by
  unfold tkp
  rw [decide_eq_true h1, Bool.true_and]
theorem PP_le (w : WF σ) : 1 ≤ PP σ ∧ PP σ ≤ 9 := by
  obtain ⟨a1, a2, a3, a4, a5, -⟩ := w.1
  have : 1 * 1 ≤ σ 0 0 * σ 0 1 := Nat.mul_le_mul a1 a3
  unfold PP
  omega
theorem mm_np (w : WF σ) : rk σ (σ 0 2) = mm σ := by
  have h5 := w.1.2.2.2.2.2.1
  unfold mm
  have e := tn_cnt (tkp σ) (5 - σ 0 2) (σ 0 2)
  rw [show σ 0 2 + (5 - σ 0 2) = 5 by omega] at e
  have z : ∀ r i, σ 0 2 ≤ i → tn (tkp σ) r i = 0 := by
    intro r
    induction r with
    | zero => intro i _; rfl
    | succ r ih =>
      intro i hi
      rw [tn_f (show tkp σ i = false by unfold tkp; rw [decide_eq_false (by omega)]; rfl)]
      exact ih (i + 1) (by omega)
  rw [z _ _ (Nat.le_refl _)] at e
  exact e
theorem mm_le : mm σ ≤ 5 := cntP_le _ 5
theorem rk_lt {p : Nat} (w : WF σ) (hp : tkp σ p = true) : rk σ p < mm σ := cntP_lt (by have := (tkp_lt hp).1; have := w.1.2.2.2.2.2.1; omega) hp
/-- the parts -/
def PA (σ : Sg) (h : Hp) : Prop := h 28 25 = nI (mm σ) ∧ ∀ i, tkp σ i = true → h 48 (rk σ i) = nI i
def PM (σ : Sg) (h : Hp) : Prop := ∀ i, tkp σ i = true → ∀ s, s < PP σ → h 49 (9 * rk σ i + s) = bI (ft σ i s)
def PQ (σ : Sg) (h : Hp) : Prop := ∀ i j, tkp σ i = true → tkp σ j = true → j < i → ∀ s t, s < PP σ → t < PP σ → h 50 (45 * (9 * rk σ i + s) + 9 * rk σ j + t) = nI (qv σ i s j t)
theorem PA.w {k j : Nat} {v : Int32} (pa : PA σ h) (hk : 49 ≤ k) : PA σ (up h k j v) := ⟨by rw [up_ne h (by omega)]; exact pa.1, fun i hi => by rw [up_ne h (by omega)]; exact pa.2 i hi⟩
theorem prep7 {K : Hp → RO} {Q : RO → Prop} (w : WF σ) (ms : MS σ h) (hK : ∀ h', FrS h h' → PA σ h' → Q (K h')) : Q (fM_prepare_L7 K FU 0 (up h 28 25 0)) := by
  have h5 := w.1.2.2.2.2.2.1
  refine loopK (fun n (a : Int32 × Hp) => fM_prepare_L7 K n a.1 a.2) (fun i a => a.1 = nI i ∧ FrS h a.2 ∧ a.2 28 25 = nI (rk σ i) ∧ ∀ j, j < i → tkp σ j = true → a.2 48 (rk σ j) = nI j) Q (σ 0 2) (by omega) ?_ ?_ 0 (0, up h 28 25 0) (by omega) ⟨rfl, FrS.w28 (FrS.refl h) 0 (show 25 ≤ 25 by decide), by show up h 28 25 0 28 25 = _; rw [up_k, upd_same]; rfl, fun j hj => by omega⟩
  · rintro i ⟨x, h'⟩ n hi ⟨e1, fr, e2, e3⟩ hn
    dsimp only at e1 fr e2 e3
    subst e1
    have ms' := fr.ms ms
    have hle : rk σ i ≤ i := cntP_le _ i
    show Q (fM_prepare_L7 K (n + 1) (nI i) h')
    simp only [fM_prepare_L7, jn]
    rw [if_neg (fun q => by rw [ms'.np] at q; have := (n_le rfl rfl (by omega) (by omega)).mp q; omega), mtakes_eq w ms' hi, cal_some, if_b0, ← tkp_of hi]
    cases ht : tkp σ i with
    | false =>
      rw [cond_false, n_s1]
      refine hn (nI (i + 1), h') ⟨rfl, fr, ?_, fun j hj hj2 => ?_⟩
      · show h' 28 25 = nI (rk σ (i + 1))
        rw [e2, show rk σ (i + 1) = rk σ i from cntP_f ht]
      · rcases (show j < i ∨ j = i by omega) with q | q
        · exact e3 j q hj2
        · rw [q, ht] at hj2; exact absurd hj2 (by decide)
    | true =>
      rw [cond_true, e2, wr_at (rk σ i) 5 rfl rfl (by omega)]
      unfold pt
      rw [up_ne h' (show 28 ≠ 48 by decide), e2, n_s1, n_s1]
      refine hn (nI (i + 1), _) ?_
      dsimp only
      refine ⟨rfl, (fr.w48 _ _ (by decide)).w28 _ (by decide), ?_, fun j hj hj2 => ?_⟩
      · show up (up h' 48 (rk σ i) (nI i)) 28 25 (nI (rk σ i + 1)) 28 25 = nI (rk σ (i + 1))
        rw [up_k, upd_same, show rk σ (i + 1) = rk σ i + 1 from cntP_t ht]
      · show up (up h' 48 (rk σ i) (nI i)) 28 25 (nI (rk σ i + 1)) 48 (rk σ j) = nI j
        rw [up_ne _ (show 48 ≠ 28 by decide), up_k]
        rcases (show j < i ∨ j = i by omega) with q | q
        · have := cntP_lt q hj2
          rw [upd_ne (by show rk σ j ≠ rk σ i; unfold rk; omega)]
          exact e3 j q hj2
        · rw [q, upd_same]
  · rintro ⟨x, h'⟩ n ⟨e1, fr, e2, e3⟩
    dsimp only at e1 fr e2 e3
    subst e1
    have ms' := fr.ms ms
    show Q (fM_prepare_L7 K (n + 1) (nI (σ 0 2)) h')
    simp only [fM_prepare_L7]
    rw [if_pos (by rw [ms'.np]; exact Int32.le_refl _)]
    exact hK h' fr ⟨by rw [e2, mm_np w], fun i hi => e3 i (tkp_lt hi).1 hi⟩
theorem prep61 {K : Hp → RO} {Q : RO → Prop} {h0 : Hp} {i : Nat} (w : WF σ) (ms : MS σ h0) (hi : tkp σ i = true) (fr : FrS h0 h) (pa : PA σ h) (hK : ∀ h', FrS h0 h' → PA σ h' → (∀ x, x < 9 * rk σ i → h' 49 x = h 49 x) → (∀ s, s < PP σ → h' 49 (9 * rk σ i + s) = bI (ft σ i s)) → Q (K h')) : Q (fM_prepare_L61 K (nI (rk σ i)) FU 0 h) := by
  have hP := PP_le w
  have hm := mm_le (σ := σ)
  have hr := rk_lt w hi
  refine loopK (fun n (a : Int32 × Hp) => fM_prepare_L61 K (nI (rk σ i)) n a.1 a.2) (fun s a => a.1 = nI s ∧ FrS h0 a.2 ∧ PA σ a.2 ∧ (∀ x, x < 9 * rk σ i → a.2 49 x = h 49 x) ∧ ∀ t, t < s → a.2 49 (9 * rk σ i + t) = bI (ft σ i t)) Q (PP σ) (by omega) ?_ ?_ 0 (0, h) (by omega) ⟨rfl, fr, pa, fun _ _ => rfl, fun j hj => by omega⟩
  · rintro s ⟨x, h'⟩ n hs ⟨e1, fr, pa, e2, e3⟩ hn
    dsimp only at e1 fr e2 e3 pa
    subst e1
    have ms' := fr.ms ms
    show Q (fM_prepare_L61 K (nI (rk σ i)) (n + 1) (nI s) h')
    simp only [fM_prepare_L61]
    rw [mplaces_eq ms', cal_some, if_neg (fun q => by have := (n_le rfl rfl (show PP σ < 2 ^ 31 by omega) (by omega)).mp q; omega), rd_at (rk σ i) 5 rfl rfl (by omega), pa.2 i hi, fits_eq w ms' (tkp_lt hi).1 hs, cal_some, wrz_at (9 * rk σ i + s) 45 rfl (n_ix' (Mm := 9) rfl rfl) (by omega) (bI_01 _), n_s1]
    refine hn (nI (s + 1), up h' 49 (9 * rk σ i + s) (bI (ft σ i s))) ?_
    dsimp only
    refine ⟨rfl, fr.w48 _ _ (by decide), pa.w (by decide), fun x hx => ?_, fun t ht => ?_⟩
    · rw [up_k, upd_ne (by omega)]
      exact e2 x hx
    · rw [up_k]
      rcases (show t < s ∨ t = s by omega) with q | q
      · rw [upd_ne (by omega)]
        exact e3 t q
      · rw [q, upd_same]
  · rintro ⟨x, h'⟩ n ⟨e1, fr, pa, e2, e3⟩
    dsimp only at e1 fr e2 e3 pa
    subst e1
    have ms' := fr.ms ms
    show Q (fM_prepare_L61 K (nI (rk σ i)) (n + 1) (nI (PP σ)) h')
    simp only [fM_prepare_L61]
    rw [mplaces_eq ms', cal_some, if_pos (show nI (σ 0 0 * σ 0 1) ≤ nI (PP σ) from Int32.le_refl _)]
    exact hK h' fr pa e2 e3
theorem prep51 {K : Hp → RO} {Q : RO → Prop} {h0 : Hp} (w : WF σ) (ms : MS σ h0) (fr : FrS h0 h) (pa : PA σ h) (hK : ∀ h', FrS h0 h' → PA σ h' → PM σ h' → Q (K h')) : Q (fM_prepare_L51 K FU 0 h) := by
  have hP := PP_le w
  have hm := mm_le (σ := σ)
  refine loopK (fun n (a : Int32 × Hp) => fM_prepare_L51 K n a.1 a.2) (fun r a => a.1 = nI r ∧ FrS h0 a.2 ∧ PA σ a.2 ∧ ∀ i, tkp σ i = true → rk σ i < r → ∀ s, s < PP σ → a.2 49 (9 * rk σ i + s) = bI (ft σ i s)) Q (mm σ) (by omega) ?_ ?_ 0 (0, h) (by omega) ⟨rfl, fr, pa, fun i _ hi => by omega⟩
  · rintro r ⟨x, h'⟩ n hr ⟨e1, fr, pa, e2⟩ hn
    dsimp only at e1 fr e2 pa
    subst e1
    obtain ⟨i, i1, i2, i3⟩ := cntP_ex hr
    show Q (fM_prepare_L51 K (n + 1) (nI r) h')
    simp only [fM_prepare_L51]
    rw [if_neg (fun q => by rw [pa.1] at q; have := (n_le rfl rfl (by omega) (by omega)).mp q; omega), ← i3]
    refine prep61 w ms i2 fr pa (fun h2 fr2 pa2 c1 c2 => ?_)
    rw [i3, n_s1]
    refine hn (nI (r + 1), h2) ⟨rfl, fr2, pa2, fun j j1 j2 s hs => ?_⟩
    rcases (show rk σ j < r ∨ rk σ j = r by omega) with q | q
    · show h2 49 _ = _
      rw [c1 _ (by show 9 * rk σ j + s < 9 * rk σ i; rw [show rk σ i = r from i3]; omega)]
      exact e2 j j1 q s hs
    · have : j = i := cntP_inj j1 i2 (by show rk σ j = _; rw [q, i3])
      rw [this]
      exact c2 s hs
  · rintro ⟨x, h'⟩ n ⟨e1, fr, pa, e2⟩
    dsimp only at e1 fr e2 pa
    subst e1
    show Q (fM_prepare_L51 K (n + 1) (nI (mm σ)) h')
    simp only [fM_prepare_L51]
    rw [if_pos (by rw [pa.1]; exact Int32.le_refl _)]
    exact hK h' fr pa (fun i hi s hs => e2 i hi (rk_lt w hi) s hs)
theorem PM.w {k j : Nat} {v : Int32} (pm : PM σ h) (hk : 50 ≤ k) : PM σ (up h k j v) := fun i hi s hs => by rw [up_ne h (by omega)]; exact pm i hi s hs
/-- the quarrels of some are reckoned -/
def PCl (σ : Sg) (D : Nat → Nat → Nat → Nat → Prop) (h : Hp) : Prop := ∀ i j, tkp σ i = true → tkp σ j = true → j < i → ∀ s t, s < PP σ → t < PP σ → D (rk σ i) (rk σ j) s t → h 50 (45 * (9 * rk σ i + s) + 9 * rk σ j + t) = nI (qv σ i s j t)
theorem PCl.mono {D D' : Nat → Nat → Nat → Nat → Prop} (pc : PCl σ D h) (hD : ∀ a b s t, s < PP σ → t < PP σ → b < a → D' a b s t → D a b s t) : PCl σ D' h := fun i j h1 h2 h3 s t h4 h5 h6 => pc i j h1 h2 h3 s t h4 h5 (hD _ _ _ _ h4 h5 (cntP_lt h3 h2) h6)
theorem prep133 {K : Hp → RO} {Q : RO → Prop} {h0 : Hp} {i j s : Nat} {D : Nat → Nat → Nat → Nat → Prop} (w : WF σ) (ms : MS σ h0) (hi : tkp σ i = true) (hj : tkp σ j = true) (hs : s < PP σ) (fr : FrS h0 h) (pa : PA σ h) (pm : PM σ h) (pc : PCl σ D h) (hK : ∀ h', FrS h0 h' → PA σ h' → PM σ h' → PCl σ (fun a b s' t => D a b s' t ∨ (a = rk σ i ∧ b = rk σ j ∧ s' = s)) h' → Q (K h')) : Q (fM_prepare_L133 K (nI (rk σ i)) (nI (rk σ j)) (nI s) FU 0 h) := by
  have hP := PP_le w
  have hm := mm_le (σ := σ)
  have hr := rk_lt w hi
  have hr2 := rk_lt w hj
  refine loopK (fun n (a : Int32 × Hp) => fM_prepare_L133 K (nI (rk σ i)) (nI (rk σ j)) (nI s) n a.1 a.2) (fun t a => a.1 = nI t ∧ FrS h0 a.2 ∧ PA σ a.2 ∧ PM σ a.2 ∧ PCl σ (fun a b s' t' => D a b s' t' ∨ (a = rk σ i ∧ b = rk σ j ∧ s' = s ∧ t' < t)) a.2) Q (PP σ) (by omega) ?_ ?_ 0 (0, h) (by omega) ⟨rfl, fr, pa, pm, pc.mono (fun a b s t _ _ _ q => by rcases q with q | q; exact q; omega)⟩
  · rintro t ⟨x, h'⟩ n ht ⟨e1, fr, pa, pm, pc⟩ hn
    dsimp only at e1 fr pa pm pc
    subst e1
    have ms' := fr.ms ms
    show Q (fM_prepare_L133 K (nI (rk σ i)) (nI (rk σ j)) (nI s) (n + 1) (nI t) h')
    simp only [fM_prepare_L133, jn]
    rw [mplaces_eq ms', cal_some, if_neg (fun q => by have := (n_le rfl rfl (show PP σ < 2 ^ 31 by omega) (by omega)).mp q; omega), rdz_at (9 * rk σ i + s) 45 rfl (n_ix' (Mm := 9) rfl rfl) (by omega), pm i hi s hs, if_b0, rdz_at (9 * rk σ j + t) 45 rfl (n_ix' (Mm := 9) rfl rfl) (by omega), pm j hj t ht, if_b0, rd_at (rk σ i) 5 rfl rfl (by omega), pa.2 i hi, rd_at (rk σ j) 5 rfl rfl (by omega), pa.2 j hj, quarrelOf_eq w ms' (tkp_lt hi).1 (tkp_lt hj).1 (by omega) (by omega), cal_some]
    have ix : ((45 : Int32) * (9 * nI (rk σ i) + nI s) + 9 * nI (rk σ j)) + nI t = nI (45 * (9 * rk σ i + s) + 9 * rk σ j + t) := by
      rw [n_ix' (Mm := 9) (m := 9) rfl rfl, show (45 : Int32) = nI 45 from rfl, show (9 : Int32) = nI 9 from rfl, n_mul, n_mul, nI_add, nI_add]
    have key : ∀ v : Nat, v = qv σ i s j t → Q (wr h' 50 (((45 : Int32) * (9 * nI (rk σ i) + nI s) + 9 * nI (rk σ j)) + nI t) (nI v) (fun h227 => fM_prepare_L133 K (nI (rk σ i)) (nI (rk σ j)) (nI s) n (nI t + 1) h227)) := by
      rintro v rfl
      rw [wr_at _ 2025 rfl ix (by omega), n_s1]
      refine hn (nI (t + 1), up h' 50 (45 * (9 * rk σ i + s) + 9 * rk σ j + t) (nI (qv σ i s j t))) ?_
      dsimp only
      refine ⟨rfl, fr.w48 _ _ (by decide), pa.w (by decide), pm.w (by decide), fun i' j' h1 h2 h3 s' t' h4 h5 h6 => ?_⟩
      rw [up_k]
      have r1 := rk_lt w h1
      have r2 := rk_lt w h2
      by_cases e : rk σ i' = rk σ i ∧ rk σ j' = rk σ j ∧ s' = s ∧ t' = t
      · obtain ⟨q1, q2, q3, q4⟩ := e
        have a1 : i' = i := cntP_inj h1 hi q1
        have a2 : j' = j := cntP_inj h2 hj q2
        rw [a1, a2, q3, q4, upd_same]
      · rw [upd_ne (by omega)]
        refine pc i' j' h1 h2 h3 s' t' h4 h5 ?_
        rcases h6 with q | q
        · exact Or.inl q
        · exact Or.inr (by omega)
    unfold qv at key
    cases f1 : ft σ i s with
    | false => exact key 0 (by rw [f1]; rfl)
    | true =>
      cases f2 : ft σ j t with
      | false => exact key 0 (by rw [f1, f2]; rfl)
      | true => exact key _ (by rw [f1, f2]; rfl)
  · rintro ⟨x, h'⟩ n ⟨e1, fr, pa, pm, pc⟩
    dsimp only at e1 fr pa pm pc
    subst e1
    have ms' := fr.ms ms
    show Q (fM_prepare_L133 K (nI (rk σ i)) (nI (rk σ j)) (nI s) (n + 1) (nI (PP σ)) h')
    simp only [fM_prepare_L133]
    rw [mplaces_eq ms', cal_some, if_pos (show nI (σ 0 0 * σ 0 1) ≤ nI (PP σ) from Int32.le_refl _)]
    exact hK h' fr pa pm (pc.mono (fun a b s' t' h1 h2 _ q => by
      rcases q with q | q
      · exact Or.inl q
      · exact Or.inr ⟨q.1, q.2.1, q.2.2, h2⟩))
theorem prep122 {K : Hp → RO} {Q : RO → Prop} {h0 : Hp} {i j : Nat} {D : Nat → Nat → Nat → Nat → Prop} (w : WF σ) (ms : MS σ h0) (hi : tkp σ i = true) (hj : tkp σ j = true) (fr : FrS h0 h) (pa : PA σ h) (pm : PM σ h) (pc : PCl σ D h) (hK : ∀ h', FrS h0 h' → PA σ h' → PM σ h' → PCl σ (fun a b s' t => D a b s' t ∨ (a = rk σ i ∧ b = rk σ j)) h' → Q (K h')) : Q (fM_prepare_L122 K (nI (rk σ i)) (nI (rk σ j)) FU 0 h) := by
  have hP := PP_le w
  refine loopK (fun n (a : Int32 × Hp) => fM_prepare_L122 K (nI (rk σ i)) (nI (rk σ j)) n a.1 a.2) (fun s a => a.1 = nI s ∧ FrS h0 a.2 ∧ PA σ a.2 ∧ PM σ a.2 ∧ PCl σ (fun a b s' t' => D a b s' t' ∨ (a = rk σ i ∧ b = rk σ j ∧ s' < s)) a.2) Q (PP σ) (by omega) ?_ ?_ 0 (0, h) (by omega) ⟨rfl, fr, pa, pm, pc.mono (fun a b s t _ _ _ q => by rcases q with q | q; exact q; omega)⟩
  · rintro s ⟨x, h'⟩ n hs ⟨e1, fr, pa, pm, pc⟩ hn
    dsimp only at e1 fr pa pm pc
    subst e1
    have ms' := fr.ms ms
    show Q (fM_prepare_L122 K (nI (rk σ i)) (nI (rk σ j)) (n + 1) (nI s) h')
    simp only [fM_prepare_L122]
    rw [mplaces_eq ms', cal_some, if_neg (fun q => by have := (n_le rfl rfl (show PP σ < 2 ^ 31 by omega) (by omega)).mp q; omega)]
    refine prep133 w ms hi hj hs fr pa pm pc (fun h2 fr2 pa2 pm2 pc2 => ?_)
    rw [n_s1]
    refine hn (nI (s + 1), h2) ⟨rfl, fr2, pa2, pm2, pc2.mono (fun a b s' t' _ _ _ q => ?_)⟩
    rcases q with q | q
    · exact Or.inl (Or.inl q)
    · by_cases e : s' < s
      · exact Or.inl (Or.inr ⟨q.1, q.2.1, e⟩)
      · exact Or.inr ⟨q.1, q.2.1, by omega⟩
  · rintro ⟨x, h'⟩ n ⟨e1, fr, pa, pm, pc⟩
    dsimp only at e1 fr pa pm pc
    subst e1
    have ms' := fr.ms ms
    show Q (fM_prepare_L122 K (nI (rk σ i)) (nI (rk σ j)) (n + 1) (nI (PP σ)) h')
    simp only [fM_prepare_L122]
    rw [mplaces_eq ms', cal_some, if_pos (show nI (σ 0 0 * σ 0 1) ≤ nI (PP σ) from Int32.le_refl _)]
    exact hK h' fr pa pm (pc.mono (fun a b s' t' h1 h2 _ q => by
      rcases q with q | q
      · exact Or.inl q
      · exact Or.inr ⟨q.1, q.2, h1⟩))
theorem prep115 {K : Hp → RO} {Q : RO → Prop} {h0 : Hp} {i : Nat} {D : Nat → Nat → Nat → Nat → Prop} (w : WF σ) (ms : MS σ h0) (hi : tkp σ i = true) (fr : FrS h0 h) (pa : PA σ h) (pm : PM σ h) (pc : PCl σ D h) (hK : ∀ h', FrS h0 h' → PA σ h' → PM σ h' → PCl σ (fun a b s' t => D a b s' t ∨ a = rk σ i) h' → Q (K h')) : Q (fM_prepare_L115 K (nI (rk σ i)) FU 0 h) := by
  have hr := rk_lt w hi
  have hm := mm_le (σ := σ)
  refine loopK (fun n (a : Int32 × Hp) => fM_prepare_L115 K (nI (rk σ i)) n a.1 a.2) (fun r a => a.1 = nI r ∧ FrS h0 a.2 ∧ PA σ a.2 ∧ PM σ a.2 ∧ PCl σ (fun a b s' t' => D a b s' t' ∨ (a = rk σ i ∧ b < r)) a.2) Q (rk σ i) (by omega) ?_ ?_ 0 (0, h) (by omega) ⟨rfl, fr, pa, pm, pc.mono (fun a b s t _ _ _ q => by rcases q with q | q; exact q; omega)⟩
  · rintro r ⟨x, h'⟩ n hs ⟨e1, fr, pa, pm, pc⟩ hn
    dsimp only at e1 fr pa pm pc
    subst e1
    obtain ⟨j, j1, j2, j3⟩ := cntP_ex (show r < cntP (tkp σ) i from hs)
    show Q (fM_prepare_L115 K (nI (rk σ i)) (n + 1) (nI r) h')
    simp only [fM_prepare_L115]
    rw [if_neg (fun q => by have := (n_le rfl rfl (by omega) (by omega)).mp q; omega), ← j3]
    refine prep122 w ms hi j2 fr pa pm pc (fun h2 fr2 pa2 pm2 pc2 => ?_)
    rw [j3, n_s1]
    refine hn (nI (r + 1), h2) ⟨rfl, fr2, pa2, pm2, pc2.mono (fun a b s' t' _ _ _ q => ?_)⟩
    rcases q with q | q
    · exact Or.inl (Or.inl q)
    · by_cases e : b < r
      · exact Or.inl (Or.inr ⟨q.1, e⟩)
      · exact Or.inr ⟨q.1, by show b = cntP (tkp σ) j; omega⟩
  · rintro ⟨x, h'⟩ n ⟨e1, fr, pa, pm, pc⟩
    dsimp only at e1 fr pa pm pc
    subst e1
    show Q (fM_prepare_L115 K (nI (rk σ i)) (n + 1) (nI (rk σ i)) h')
    simp only [fM_prepare_L115]
    rw [if_pos (Int32.le_refl _)]
    exact hK h' fr pa pm (pc.mono (fun a b s' t' h1 h2 h3 q => by
      rcases q with q | q
      · exact Or.inl q
      · exact Or.inr ⟨q, by omega⟩))
theorem prep105 {Q : RO → Prop} {h0 : Hp} (w : WF σ) (ms : MS σ h0) (fr : FrS h0 h) (pa : PA σ h) (pm : PM σ h) (hK : ∀ h', FrS h0 h' → PA σ h' → PM σ h' → PQ σ h' → Q (some (0, h'))) : Q (fM_prepare_L105 FU 0 h) := by
  have hm := mm_le (σ := σ)
  refine loopK (fun n (a : Int32 × Hp) => fM_prepare_L105 n a.1 a.2) (fun r a => a.1 = nI r ∧ FrS h0 a.2 ∧ PA σ a.2 ∧ PM σ a.2 ∧ PCl σ (fun a b s' t' => a < r) a.2) Q (mm σ) (by omega) ?_ ?_ 0 (0, h) (by omega) ⟨rfl, fr, pa, pm, fun i j _ _ _ s t _ _ q => by omega⟩
  · rintro r ⟨x, h'⟩ n hs ⟨e1, fr, pa, pm, pc⟩ hn
    dsimp only at e1 fr pa pm pc
    subst e1
    obtain ⟨j, j1, j2, j3⟩ := cntP_ex (show r < cntP (tkp σ) 5 from hs)
    show Q (fM_prepare_L105 (n + 1) (nI r) h')
    simp only [fM_prepare_L105]
    rw [if_neg (fun q => by rw [pa.1] at q; have := (n_le rfl rfl (by omega) (by omega)).mp q; omega), ← j3]
    refine prep115 w ms j2 fr pa pm pc (fun h2 fr2 pa2 pm2 pc2 => ?_)
    rw [j3, n_s1]
    refine hn (nI (r + 1), h2) ⟨rfl, fr2, pa2, pm2, pc2.mono (fun a b s' t' _ _ _ q => ?_)⟩
    by_cases e : a < r
    · exact Or.inl e
    · exact Or.inr (by show a = cntP (tkp σ) j; omega)
  · rintro ⟨x, h'⟩ n ⟨e1, fr, pa, pm, pc⟩
    dsimp only at e1 fr pa pm pc
    subst e1
    show Q (fM_prepare_L105 (n + 1) (nI (mm σ)) h')
    simp only [fM_prepare_L105]
    rw [if_pos (by rw [pa.1]; exact Int32.le_refl _)]
    exact hK h' fr pa pm (fun i j h1 h2 h3 s t h4 h5 => pc i j h1 h2 h3 s t h4 h5 (rk_lt w h1))
theorem prepare_eq (w : WF σ) (ms : MS σ h) : ∃ h', fM_prepare h = some (0, h') ∧ FrS h h' ∧ PA σ h' ∧ PM σ h' ∧ PQ σ h' := by
  unfold fM_prepare pt
  dsimp only
  refine prep7 (Q := fun o => ∃ h', o = some (0, h') ∧ FrS h h' ∧ PA σ h' ∧ PM σ h' ∧ PQ σ h') w ms (fun h1 f1 p1 => ?_)
  refine prep51 (Q := fun o => ∃ h', o = some (0, h') ∧ FrS h h' ∧ PA σ h' ∧ PM σ h' ∧ PQ σ h') w ms f1 p1 (fun h2 f2 p2 m2 => ?_)
  refine prep105 (Q := fun o => ∃ h', o = some (0, h') ∧ FrS h h' ∧ PA σ h' ∧ PM σ h' ∧ PQ σ h') w ms f2 p2 m2 (fun h3 f3 p3 m3 q3 => ?_)
  exact ⟨h3, rfl, f3, p3, m3, q3⟩
end Prep
