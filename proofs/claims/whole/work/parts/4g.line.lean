/-! THE LINE OF A PLACE -/
section Line
variable {σ : Sg} {h : Hp}
/-- copy c goes into the line from place a of it down -/
def insF (W : Nat → Nat) (c : Nat) : (Nat → Nat) → Nat → (Nat → Nat)
  | l, 0 => sv l 0 c
  | l, a + 1 => if W (l a) ≤ W c then sv l (a + 1) c else insF W c (sv l (a + 1) (l a)) a
/-- the line of the copies ahead of c that are meant -/
def lnS (P : Nat → Bool) (W : Nat → Nat) : Nat → (Nat → Nat)
  | 0 => v0
  | c + 1 => if P c then insF W c (lnS P W c) (cntP P c) else lnS P W c
theorem insF_el {W : Nat → Nat} {c s : Nat} {R : Nat → Prop} (hc : R c) : ∀ a l, a ≤ s → (∀ i, i ≤ s → i ≠ a → R (l i)) → ∀ i, i ≤ s → R (insF W c l a i)
  | 0, l, _, hl => fun i hi => by
    show R (sv l 0 c i)
    by_cases e : i = 0
    · rw [e, sv_s]; exact hc
    · rw [sv_n e]; exact hl i hi e
  | a + 1, l, ha, hl => fun i hi => by
    unfold insF
    by_cases q : W (l a) ≤ W c
    · rw [if_pos q]
      by_cases e : i = a + 1
      · rw [e, sv_s]; exact hc
      · rw [sv_n e]; exact hl i hi e
    · rw [if_neg q]
      refine insF_el hc a _ (by omega) (fun j hj hne => ?_) i hi
      by_cases e : j = a + 1
      · rw [e, sv_s]; exact hl a (by omega) (by omega)
      · rw [sv_n e]; exact hl j hj e
theorem insF_srt {W : Nat → Nat} {c s : Nat} : ∀ a l, a ≤ s → (∀ i j, i < j → j ≤ s → i ≠ a → j ≠ a → W (l i) ≤ W (l j)) → (∀ j, a < j → j ≤ s → W c ≤ W (l j)) → ∀ i j, i < j → j ≤ s → W (insF W c l a i) ≤ W (insF W c l a j)
  | 0, l, _, h1, h2 => fun i j hij hj => by
    show W (sv l 0 c i) ≤ W (sv l 0 c j)
    rw [sv_n (show j ≠ 0 by omega)]
    by_cases e : i = 0
    · rw [e, sv_s]; exact h2 j (by omega) hj
    · rw [sv_n e]; exact h1 i j hij hj e (by omega)
  | a + 1, l, ha, h1, h2 => fun i j hij hj => by
    unfold insF
    by_cases q : W (l a) ≤ W c
    · rw [if_pos q]
      by_cases e : j = a + 1
      · rw [e, sv_s, sv_n (show i ≠ a + 1 by omega)]
        by_cases e2 : i = a
        · rw [e2]; exact q
        · exact Nat.le_trans (h1 i a (by omega) (by omega) (by omega) (by omega)) q
      · rw [sv_n e]
        by_cases e2 : i = a + 1
        · rw [e2, sv_s]; exact h2 j (by omega) hj
        · rw [sv_n e2]; exact h1 i j hij hj e2 e
    · rw [if_neg q]
      refine insF_srt a _ (by omega) (fun i j hij hj n1 n2 => ?_) (fun j h3 h4 => ?_) i j hij hj
      · by_cases e : j = a + 1
        · rw [e, sv_s, sv_n (show i ≠ a + 1 by omega)]; exact h1 i a (by omega) (by omega) (by omega) (by omega)
        · rw [sv_n e]
          by_cases e2 : i = a + 1
          · rw [e2, sv_s]; exact h1 a j (by omega) hj (by omega) e
          · rw [sv_n e2]; exact h1 i j hij hj e2 e
      · by_cases e : j = a + 1
        · rw [e, sv_s]; omega
        · rw [sv_n e]; exact h2 j (by omega) h4
theorem lnS_el {P : Nat → Bool} {W : Nat → Nat} : ∀ n i, i < cntP P n → lnS P W n i < n ∧ P (lnS P W n i) = true
  | 0, i, hi => absurd hi (Nat.not_lt_zero _)
  | n + 1, i, hi => by
    have ih := lnS_el (P := P) (W := W) n
    cases q : P n with
    | false =>
      rw [cntP_f q] at hi
      have := ih i hi
      show (if P n then insF W n (lnS P W n) (cntP P n) else lnS P W n) i < n + 1 ∧ P ((if P n then insF W n (lnS P W n) (cntP P n) else lnS P W n) i) = true
      rw [q, if_neg (by decide)]
      exact ⟨by omega, this.2⟩
    | true =>
      rw [cntP_t q] at hi
      show (if P n then insF W n (lnS P W n) (cntP P n) else lnS P W n) i < n + 1 ∧ P ((if P n then insF W n (lnS P W n) (cntP P n) else lnS P W n) i) = true
      rw [q, if_pos rfl]
      exact insF_el (W := W) (R := fun x => x < n + 1 ∧ P x = true) (s := cntP P n) ⟨by omega, q⟩ (cntP P n) (lnS P W n) (Nat.le_refl _) (fun j hj hne => by
        have := ih j (by omega)
        exact ⟨by omega, this.2⟩) i (by omega)
theorem lnS_srt {P : Nat → Bool} {W : Nat → Nat} : ∀ n i j, i < j → j < cntP P n → W (lnS P W n i) ≤ W (lnS P W n j)
  | 0, i, j, _, hj => absurd hj (Nat.not_lt_zero _)
  | n + 1, i, j, hij, hj => by
    have ih := lnS_srt (P := P) (W := W) n
    cases q : P n with
    | false =>
      rw [cntP_f q] at hj
      show W ((if P n then insF W n (lnS P W n) (cntP P n) else lnS P W n) i) ≤ W ((if P n then insF W n (lnS P W n) (cntP P n) else lnS P W n) j)
      rw [q, if_neg (by decide)]
      exact ih i j hij hj
    | true =>
      rw [cntP_t q] at hj
      show W ((if P n then insF W n (lnS P W n) (cntP P n) else lnS P W n) i) ≤ W ((if P n then insF W n (lnS P W n) (cntP P n) else lnS P W n) j)
      rw [q, if_pos rfl]
      exact insF_srt (s := cntP P n) (cntP P n) (lnS P W n) (Nat.le_refl _) (fun i j hij hj n1 n2 => ih i j hij (by omega)) (fun j h1 h2 => by omega) i j hij (by omega)
theorem lnS_stop {P : Nat → Bool} {W : Nat → Nat} {c : Nat} : ∀ d, cntP P (c + d) ≤ cntP P c → cntP P (c + d) = cntP P c ∧ lnS P W (c + d) = lnS P W c
  | 0, _ => ⟨rfl, rfl⟩
  | d + 1, hd => by
    have m := cntP_mono P (show c ≤ c + d by omega)
    cases q : P (c + d) with
    | false =>
      have e : cntP P (c + (d + 1)) = cntP P (c + d) := cntP_f q
      obtain ⟨a, b⟩ := lnS_stop (P := P) (W := W) (c := c) d (by omega)
      refine ⟨by omega, ?_⟩
      show (if P (c + d) then insF W (c + d) (lnS P W (c + d)) (cntP P (c + d)) else lnS P W (c + d)) = _
      rw [q, if_neg (by decide)]
      exact b
    | true =>
      have e : cntP P (c + (d + 1)) = cntP P (c + d) + 1 := cntP_t q
      omega
/-- the class puts one in -/
theorem insert_K {Q : RO → Prop} {c s : Nat} {l : Nat → Nat} (w : WF σ) (cs : CS σ h) (hc : c < σ 0 3) (hs : s < 5) (hl : ∀ i, i < s → h 27 i = nI (l i) ∧ l i < σ 0 3) (hK : ∀ h', (∀ k, k ≠ 27 → h' k = h k) → (∀ i, i ≤ s → h' 27 i = nI (insF (σ 10) c l s i)) → Q (some (0, h'))) : Q (fU_insert h (nI c) (nI s)) := by
  have w99 : ∀ q, q < σ 0 3 → σ 10 q ≤ 99 := fun q hq => (w.2.2.2.2.1 q hq).2.2.2.1
  unfold fU_insert
  rw [copyFact_eq (W := 5) (w := 5) w cs hc rfl (by decide), cal_some]
  show Q (fU_insert_L13 (fun x4_61 h61 => wr h61 27 x4_61 (nI c) (fun h68 => ret1 0 h68)) (nI c) (nI (σ 10 c)) FU (nI s) h)
  -- from place a of the line down
  have key : ∀ (n a : Nat) (h' : Hp) (l' : Nat → Nat), a < n → a ≤ s → (∀ k, k ≠ 27 → h' k = h k) → (∀ i, i ≤ s → i ≠ a → h' 27 i = nI (l' i) ∧ l' i < σ 0 3) → insF (σ 10) c l' a = insF (σ 10) c l s → Q (fU_insert_L13 (fun x4_61 h61 => wr h61 27 x4_61 (nI c) (fun h68 => ret1 0 h68)) (nI c) (nI (σ 10 c)) n (nI a) h') := by
    intro n
    induction n with
    | zero => intro a h' l' ha; omega
    | succ n ih =>
      intro a h' l' ha has fr hl' e
      have cs' : CS σ h' := cs.keep (fun k hk => fr k (by omega))
      rw [fU_insert_L13]
      cases a with
      | zero =>
        rw [if_pos (show nI 0 ≤ 0 by decide), wr_at 0 5 rfl rfl (by omega)]
        refine hK (up h' 27 0 (nI c)) (fun k hk => (up_ne h' hk _ _).trans (fr k hk)) (fun i hi => ?_)
        rw [← e]
        show _ = nI (sv l' 0 c i)
        rw [up_k]
        by_cases z : i = 0
        · rw [z, upd_same, sv_s]
        · rw [upd_ne z, sv_n z]; exact (hl' i hi z).1
      | succ a =>
        obtain ⟨la1, la2⟩ := hl' a (by omega) (by omega)
        have i1 : nI (a + 1) - 1 = nI a := nI_pred a
        rw [if_neg (fun z => by have := (n_le (Y := 0) (b := 0) rfl rfl (by omega) (by omega)).mp z; omega), i1, rd_at a 5 rfl rfl (by omega), la1, copyFact_eq (W := 5) (w := 5) w cs' la2 rfl (by decide), cal_some]
        have w1 := w99 _ la2
        have w2 := w99 _ hc
        have e2 : insF (σ 10) c l' (a + 1) = if σ 10 (l' a) ≤ σ 10 c then sv l' (a + 1) c else insF (σ 10) c (sv l' (a + 1) (l' a)) a := rfl
        rw [e2] at e
        show Q (if nI (σ 10 (l' a)) ≤ nI (σ 10 c) then _ else _)
        by_cases q : σ 10 (l' a) ≤ σ 10 c
        · rw [if_pos ((nI_leI (by omega) (by omega)).mpr q), wr_at (a + 1) 5 rfl rfl (by omega)]
          rw [if_pos q] at e
          refine hK (up h' 27 (a + 1) (nI c)) (fun k hk => (up_ne h' hk _ _).trans (fr k hk)) (fun i hi => ?_)
          rw [← e, up_k]
          by_cases z : i = a + 1
          · rw [z, upd_same, sv_s]
          · rw [upd_ne z, sv_n z]; exact (hl' i hi z).1
        · rw [if_neg (fun z => q ((nI_leI (by omega) (by omega)).mp z)), rd_at a 5 rfl rfl (by omega), la1, wr_at (a + 1) 5 rfl rfl (by omega), show nI (a + 1) + (-1) = nI a by rw [← n_s1, Int32.add_assoc]; exact nI_z a]
          rw [if_neg q] at e
          refine ih a _ (sv l' (a + 1) (l' a)) (by omega) (by omega) (fun k hk => (up_ne h' hk _ _).trans (fr k hk)) (fun i hi hne => ?_) e
          rw [up_k]
          by_cases z : i = a + 1
          · rw [z, upd_same, sv_s]; exact ⟨rfl, la2⟩
          · rw [upd_ne z, sv_n z]; exact hl' i hi z
  exact key FU s h l (by unfold FU; omega) (Nat.le_refl _) (fun _ _ => rfl) (fun i hi hne => hl i (by omega)) rfl
/-- the copies that are sure on place x -/
def sP (h : Hp) (x : Nat) (c : Nat) : Bool := decide (h 12 c = nI x)
theorem lineUp_K {Q : RO → Prop} {x : Nat} (w : WF σ) (cs : CS σ h) (h5 : cntP (sP h x) (σ 0 3) ≤ 5) (hK : ∀ h', (∀ k, k ≠ 27 → h' k = h k) → (∀ i, i < cntP (sP h x) (σ 0 3) → h' 27 i = nI (lnS (sP h x) (σ 10) (σ 0 3) i)) → Q (some (nI (cntP (sP h x) (σ 0 3)), h'))) : Q (fU_lineUp h (nI x)) := by
  have c30 := w.nc_le
  unfold fU_lineUp
  refine loopK (fun n (a : Int32 × Int32 × Hp) => fU_lineUp_L4 (nI x) n a.1 a.2.1 a.2.2) (fun c a => a.1 = nI (cntP (sP h x) c) ∧ a.2.1 = nI c ∧ (∀ k, k ≠ 27 → a.2.2 k = h k) ∧ ∀ i, i < cntP (sP h x) c → a.2.2 27 i = nI (lnS (sP h x) (σ 10) c i)) Q (σ 0 3) (by omega) ?_ ?_ 0 (0, 0, h) (by omega) ⟨rfl, rfl, fun _ _ => rfl, fun i hi => absurd hi (Nat.not_lt_zero _)⟩
  · rintro c ⟨y, z, h'⟩ n hc ⟨e1, e2, e3, e4⟩ hn
    dsimp only at e1 e2 e3 e4
    subst e1 e2
    have cs' : CS σ h' := cs.keep (fun k hk => e3 k (by omega))
    have mono := cntP_mono (sP h x) (show c ≤ σ 0 3 by omega)
    show Q (fU_lineUp_L4 (nI x) (n + 1) (nI (cntP (sP h x) c)) (nI c) h')
    rw [fU_lineUp_L4, cs'.1 3 (by decide), if_neg (fun z => by have := (nI_leI (by omega) (by omega)).mp z; omega), aln_at (k := 27) (n := 5) (z := false) rfl]
    by_cases full : cntP (sP h x) c = 5
    · rw [if_pos (by rw [full]; exact Int32.le_refl _)]
      obtain ⟨s1, s2⟩ := lnS_stop (P := sP h x) (W := σ 10) (c := c) (σ 0 3 - c) (by rw [show c + (σ 0 3 - c) = σ 0 3 by omega]; omega)
      rw [show c + (σ 0 3 - c) = σ 0 3 by omega] at s1 s2
      have := hK h' e3 (by rw [s1, s2]; exact e4)
      rw [s1] at this
      exact this
    · rw [if_neg (fun z => by have := (nI_leI (by omega) (by omega)).mp z; omega), rd_at c 30 rfl rfl (by omega), jn_eq, e3 12 (by decide), n_s1]
      cases q : sP h x c with
      | false =>
        rw [if_neg (of_decide_eq_false q)]
        refine hn (nI (cntP (sP h x) c), nI (c + 1), h') ⟨by rw [cntP_f q], rfl, e3, ?_⟩
        rw [cntP_f q]
        show ∀ i, i < cntP (sP h x) c → h' 27 i = nI ((if sP h x c then insF (σ 10) c (lnS (sP h x) (σ 10) c) (cntP (sP h x) c) else lnS (sP h x) (σ 10) c) i)
        rw [q, if_neg (by decide)]
        exact e4
      | true =>
        rw [if_pos (of_decide_eq_true q)]
        refine insert_K (Q := fun o => Q (cal o _)) (s := cntP (sP h x) c) (l := lnS (sP h x) (σ 10) c) w cs' hc (by omega) (fun i hi => ⟨e4 i hi, by have := (lnS_el (P := sP h x) (W := σ 10) c i hi).1; omega⟩) (fun h2 f1 f2 => ?_)
        rw [cal_some, n_s1]
        refine hn (nI (cntP (sP h x) c + 1), nI (c + 1), h2) ⟨by rw [cntP_t q], rfl, fun k hk => (f1 k hk).trans (e3 k hk), ?_⟩
        rw [cntP_t q]
        show ∀ i, i < cntP (sP h x) c + 1 → h2 27 i = nI ((if sP h x c then insF (σ 10) c (lnS (sP h x) (σ 10) c) (cntP (sP h x) c) else lnS (sP h x) (σ 10) c) i)
        rw [q, if_pos rfl]
        exact fun i hi => f2 i (by omega)
  · rintro ⟨y, z, h'⟩ n ⟨e1, e2, e3, e4⟩
    dsimp only at e1 e2 e3 e4
    subst e1 e2
    have cs' : CS σ h' := cs.keep (fun k hk => e3 k (by omega))
    show Q (fU_lineUp_L4 (nI x) (n + 1) (nI (cntP (sP h x) (σ 0 3))) (nI (σ 0 3)) h')
    rw [fU_lineUp_L4, cs'.1 3 (by decide), if_pos (Int32.le_refl _)]
    exact hK h' e3 e4
end Line
