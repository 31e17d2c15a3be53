/-! CHANGES AND BREAKS; THE OPS -/
section Changes
variable {σ : Sg} {h : Hp}
def chA (f : Nat → Nat) : Nat → Nat
  | 0 => 2
  | i + 1 => if f i = 2 then chA f i else f i
def chN (f : Nat → Nat) : Nat → Nat
  | 0 => 0
  | i + 1 => chN f i + (if f i = 2 ∨ chA f i = 2 ∨ chA f i = f i then 0 else 1)
theorem chA_le {f : Nat → Nat} : ∀ {n}, (∀ i, i < n → f i ≤ 2) → chA f n ≤ 2
  | 0, _ => Nat.le_refl _
  | n + 1, hf => by
    show (if f n = 2 then chA f n else f n) ≤ 2
    split
    · exact chA_le (fun i hi => hf i (by omega))
    · exact hf n (by omega)
theorem chN_le (f : Nat → Nat) : ∀ n, chN f n ≤ n
  | 0 => Nat.le_refl _
  | n + 1 => by
    have := chN_le f n
    show chN f n + (if f n = 2 ∨ chA f n = 2 ∨ chA f n = f n then 0 else 1) ≤ n + 1
    split <;> omega
theorem changes_eq {n m : Nat} {l : Nat → Nat} (w : WF σ) (cs : CS σ h) (ln : LN σ n l) (hm : m < 8) (h27 : ∀ i, i < n → h 27 i = nI (l i)) : fU_changesOf h (nI n) (nI m) = some (nI (chN (mkL σ m l) n), h) := by
  have n5 := ln.1
  unfold fU_changesOf
  refine loopS (fun k (a : Int32 × Int32 × Int32 × Hp) => fU_changesOf_L8 (nI n) (nI m) k a.1 a.2.1 a.2.2.1 a.2.2.2) (fun i => (nI (chN (mkL σ m l) i), nI (chA (mkL σ m l) i), nI i, h)) _ n (by omega) ?_ ?_ 0 (by omega)
  · intro i k hi
    have m2 := mk2 w ln hm hi
    have a2 : chA (mkL σ m l) i ≤ 2 := chA_le (fun j hj => mk2 w ln hm (by omega))
    show fU_changesOf_L8 (nI n) (nI m) (k + 1) (nI (chN (mkL σ m l) i)) (nI (chA (mkL σ m l) i)) (nI i) h = fU_changesOf_L8 (nI n) (nI m) k (nI (chN (mkL σ m l) i + (if mkL σ m l i = 2 ∨ chA (mkL σ m l) i = 2 ∨ chA (mkL σ m l) i = mkL σ m l i then 0 else 1))) (nI (if mkL σ m l i = 2 then chA (mkL σ m l) i else mkL σ m l i)) (nI (i + 1)) h
    rw [fU_changesOf_L8, if_neg (fun z => by have := (nI_leI (by omega) (by omega)).mp z; omega), rd_at i 5 rfl rfl (by omega), h27 i hi, markOf_eq w cs (ln.2.1 i hi) hm, cal_some]
    simp only [jn_eq, bnd_eq]
    rw [n_s1]
    show (if nI (mkL σ m l i) = 2 then _ else _) = _
    by_cases q : mkL σ m l i = 2
    · rw [if_pos (by rw [q]; rfl), if_pos (Or.inl q), if_pos q]
      rfl
    · rw [if_neg (fun z => q ((n_eq (Y := 2) (b := 2) rfl rfl (by omega) (by omega)).mp z)), if_neg q]
      by_cases q2 : chA (mkL σ m l) i = 2
      · rw [if_pos (by rw [q2]; rfl), if_pos (Or.inr (Or.inl q2)), nI_z]
        rfl
      · rw [if_neg (fun z => q2 ((n_eq (Y := 2) (b := 2) rfl rfl (by omega) (by omega)).mp z))]
        show (if nI (chA (mkL σ m l) i) = nI (mkL σ m l i) then _ else _) = _
        by_cases q3 : chA (mkL σ m l) i = mkL σ m l i
        · rw [if_pos (by rw [q3]), if_pos (Or.inr (Or.inr q3)), nI_z]
          rfl
        · rw [if_neg (fun z => q3 ((nI_eq (by omega) (by omega)).mp z)), if_neg (fun z => by rcases z with z | z | z <;> omega), n_s1]
  · intro k
    show fU_changesOf_L8 (nI n) (nI m) (k + 1) (nI (chN (mkL σ m l) n)) (nI (chA (mkL σ m l) n)) (nI n) h = _
    rw [fU_changesOf_L8, if_pos (Int32.le_refl _)]
    rfl
theorem mchanges_eq {n m : Nat} {l : Nat → Nat} (w : WF σ) (ms : MS σ h) (ln : LN σ n l) (hm : m < 8) (h34 : h 28 34 = nI n) (h54 : ∀ i, i < n → h 54 i = nI (l i)) : fM_changesOf h (nI m) = some (nI (chN (mkL σ m l) n), h) := by
  have n5 := ln.1
  have c30 := w.nc_le
  unfold fM_changesOf
  refine loopS (fun k (a : Int32 × Int32 × Int32 × Hp) => fM_changesOf_L7 (nI m) k a.1 a.2.1 a.2.2.1 a.2.2.2) (fun i => (nI (chN (mkL σ m l) i), nI (chA (mkL σ m l) i), nI i, h)) _ n (by omega) ?_ ?_ 0 (by omega)
  · intro i k hi
    have m2 := mk2 w ln hm hi
    have lc := ln.2.1 i hi
    have a2 : chA (mkL σ m l) i ≤ 2 := chA_le (fun j hj => mk2 w ln hm (by omega))
    show fM_changesOf_L7 (nI m) (k + 1) (nI (chN (mkL σ m l) i)) (nI (chA (mkL σ m l) i)) (nI i) h = fM_changesOf_L7 (nI m) k (nI (chN (mkL σ m l) i + (if mkL σ m l i = 2 ∨ chA (mkL σ m l) i = 2 ∨ chA (mkL σ m l) i = mkL σ m l i then 0 else 1))) (nI (if mkL σ m l i = 2 then chA (mkL σ m l) i else mkL σ m l i)) (nI (i + 1)) h
    have R1 : ∀ f, rd h 54 (nI i) f = f (nI (l i)) := fun f => by rw [rd_at i 30 rfl rfl (by omega), h54 i hi]
    have R2 : ∀ f, rd h 35 (nI (8 * l i + m)) f = f (nI (mkL σ m l i)) := fun f => by rw [rd_at (8 * l i + m) 240 rfl rfl (by omega), ms.a7 (by omega)]
    rw [fM_changesOf_L7, h34, if_neg (fun z => by have := (nI_leI (by omega) (by omega)).mp z; omega)]
    simp only [jn_eq, bnd_eq, R1, ix8, R2]
    rw [n_s1]
    by_cases q : mkL σ m l i = 2
    · rw [if_pos (show (2 : Int32) ≤ nI (mkL σ m l i) by rw [q]; decide), if_pos (Or.inl q), if_pos q, nI_z, if_pos (show (2 : Int32) ≤ nI (mkL σ m l i) by rw [q]; decide)]
      rfl
    · have nq : ¬ (2 : Int32) ≤ nI (mkL σ m l i) := fun z => by have := (n_le (X := 2) (a := 2) rfl rfl (by omega) (by omega)).mp z; omega
      rw [if_neg nq, if_neg q]
      by_cases q2 : chA (mkL σ m l) i = 2
      · rw [if_pos (show (2 : Int32) ≤ nI (chA (mkL σ m l) i) by rw [q2]; decide), if_pos (Or.inr (Or.inl q2)), nI_z, if_neg nq]
        rfl
      · rw [if_neg (show ¬ (2 : Int32) ≤ nI (chA (mkL σ m l) i) from fun z => by have := (n_le (X := 2) (a := 2) rfl rfl (by omega) (by omega)).mp z; omega)]
        by_cases q3 : chA (mkL σ m l) i = mkL σ m l i
        · rw [if_pos (show nI (mkL σ m l i) = nI (chA (mkL σ m l) i) by rw [q3]), if_pos (Or.inr (Or.inr q3)), nI_z, if_neg nq]
          rfl
        · rw [if_neg (show ¬ nI (mkL σ m l i) = nI (chA (mkL σ m l) i) from fun z => q3 ((nI_eq (by omega) (by omega)).mp z).symm), if_neg (show ¬ (mkL σ m l i = 2 ∨ chA (mkL σ m l) i = 2 ∨ chA (mkL σ m l) i = mkL σ m l i) from fun z => by rcases z with z | z | z <;> omega), if_neg nq, n_s1]
  · intro k
    show fM_changesOf_L7 (nI m) (k + 1) (nI (chN (mkL σ m l) n)) (nI (chA (mkL σ m l) n)) (nI n) h = _
    rw [fM_changesOf_L7, h34, if_pos (Int32.le_refl _)]
    rfl
theorem mx_dec : ∀ a, a < 6 → mxI 0 (nI a - 2) = nI (a - 2) := by decide +kernel
theorem breaks_eq {n : Nat} {l : Nat → Nat} (w : WF σ) (cs : CS σ h) (ln : LN σ n l) (h27 : ∀ i, i < n → h 27 i = nI (l i)) : fU_breaksOf h (nI n) = some (nI (sumN (fun m => chN (mkL σ m l) n - 2) 8), h) := by
  have n5 := ln.1
  unfold fU_breaksOf
  refine loopS (fun k (a : Int32 × Int32 × Hp) => fU_breaksOf_L4 (nI n) k a.1 a.2.1 a.2.2) (fun m => (nI (sumN (fun m => chN (mkL σ m l) n - 2) m), nI m, h)) _ 8 (by omega) ?_ ?_ 0 (by omega)
  · intro m k hm
    show fU_breaksOf_L4 (nI n) (k + 1) (nI (sumN (fun m => chN (mkL σ m l) n - 2) m)) (nI m) h = fU_breaksOf_L4 (nI n) k (nI (sumN (fun m => chN (mkL σ m l) n - 2) m + (chN (mkL σ m l) n - 2))) (nI (m + 1)) h
    have := chN_le (mkL σ m l) n
    rw [fU_breaksOf_L4, if_neg (fun z => by have := (n_le (X := 8) (a := 8) rfl rfl (by omega) (by omega)).mp z; omega), changes_eq w cs ln hm h27, cal_some, bnd_eq, mx_dec _ (by omega), nI_add, n_s1]
  · intro k
    show fU_breaksOf_L4 (nI n) (k + 1) (nI (sumN (fun m => chN (mkL σ m l) n - 2) 8)) (nI 8) h = _
    rw [fU_breaksOf_L4, if_pos (show (8 : Int32) ≤ nI 8 by decide)]
    rfl
theorem mbreaks_eq {n : Nat} {l : Nat → Nat} (w : WF σ) (ms : MS σ h) (ln : LN σ n l) (h34 : h 28 34 = nI n) (h54 : ∀ i, i < n → h 54 i = nI (l i)) : fM_breaks_L24 FU 0 0 h = some (nI (sumN (fun m => chN (mkL σ m l) n - 2) 8), h) := by
  have n5 := ln.1
  refine loopS (fun k (a : Int32 × Int32 × Hp) => fM_breaks_L24 k a.1 a.2.1 a.2.2) (fun m => (nI (sumN (fun m => chN (mkL σ m l) n - 2) m), nI m, h)) _ 8 (by omega) ?_ ?_ 0 (by omega)
  · intro m k hm
    show fM_breaks_L24 (k + 1) (nI (sumN (fun m => chN (mkL σ m l) n - 2) m)) (nI m) h = fM_breaks_L24 k (nI (sumN (fun m => chN (mkL σ m l) n - 2) m + (chN (mkL σ m l) n - 2))) (nI (m + 1)) h
    have := chN_le (mkL σ m l) n
    rw [fM_breaks_L24, if_neg (fun z => by have := (n_le (X := 8) (a := 8) rfl rfl (by omega) (by omega)).mp z; omega), mchanges_eq w ms ln hm h34 h54, cal_some]
    simp only [jn_eq, bnd_eq]
    rw [n_s1]
    by_cases q : chN (mkL σ m l) n ≤ 2
    · rw [if_pos ((n_le (Y := 2) (b := 2) rfl rfl (by omega) (by omega)).mpr q), nI_z, show chN (mkL σ m l) n - 2 = 0 by omega]
      rfl
    · rw [if_neg (fun z => q ((n_le (Y := 2) (b := 2) rfl rfl (by omega) (by omega)).mp z)), show (2 : Int32) = nI 2 from rfl, nI_subL (by omega), nI_add]
  · intro k
    show fM_breaks_L24 (k + 1) (nI (sumN (fun m => chN (mkL σ m l) n - 2) 8)) (nI 8) h = _
    rw [fM_breaks_L24, if_pos (show (8 : Int32) ≤ nI 8 by decide)]
    rfl
theorem ag_breaks (x : Int32) : Agr (InvX SF) (fun h => fX_breaks h x) (fun h => fM_breaks h x) := by
  rintro h ⟨σ, w, ms, cs, kp, ho, hx⟩
  have st : ST σ h := ⟨w, ms, cs, kp, ho⟩
  have hP := PP_le w
  dsimp only
  unfold fX_breaks fM_breaks
  cases hc : wn x 0 (nI (σ 0 0 * σ 0 1) - 1) with
  | false => exact ⟨-1, h, h, by rw [hasPlace_eq cs, cal_some, if_b0, hc]; rfl, by rw [mplace_eq ms, cal_some, if_b0, hc]; rfl, st.inv hx⟩
  | true =>
    have hc0 := hc
    obtain ⟨p, hp, rfl⟩ := (wn_cnt (show σ 0 0 * σ 0 1 < 2 ^ 30 by have := hP.2; unfold PP at this; omega)).mp hc
    obtain ⟨r, h1, h2, r1, r2, st1, iv⟩ := ag_line (x := p) (fun h25 r25 => cal (fU_breaksOf h25 r25) (fun r32 h32 => ret1 r32 h32)) (fun h17 => fM_breaks_L24 FU 0 0 h17) st hx hp (fun n l ln => ⟨_, fun h' c' e => by rw [breaks_eq w c' ln e, cal_some]; rfl, fun h' m' e e2 => mbreaks_eq w m' ln e e2⟩)
    exact ⟨r, h1, h2, by rw [hasPlace_eq cs, cal_some, if_b0, hc0, cond_true]; exact r1, by rw [mplace_eq st1.2.1, cal_some, if_b0, hc0, cond_true]; exact r2, iv⟩
theorem ag_known (x y : Int32) : Agr (InvX SF) (fun h => fX_known h x y) (fun h => fM_known h x y) := by
  rintro h ⟨σ, w, ms, cs, kp, ho, hx⟩
  have st : ST σ h := ⟨w, ms, cs, kp, ho⟩
  have hP := PP_le w
  dsimp only
  unfold fX_known fM_known
  cases hc : wn x 0 (nI (σ 0 0 * σ 0 1) - 1) with
  | false => exact ⟨-1, h, h, by rw [hasPlace_eq cs, cal_some, if_b0, hc]; rfl, by rw [mplace_eq ms, cal_some, if_b0, hc]; rfl, st.inv hx⟩
  | true =>
    have hc0 := hc
    obtain ⟨p, hp, rfl⟩ := (wn_cnt (show σ 0 0 * σ 0 1 < 2 ^ 30 by have := hP.2; unfold PP at this; omega)).mp hc
    cases hm : wn y 0 7 with
    | false => exact ⟨-1, h, h, by rw [hasPlace_eq cs, cal_some, if_b0, hc0, cond_true, isMark_eq, cal_some, if_b0, hm]; rfl, by rw [mplace_eq ms, cal_some, if_b0, hc0, cond_true, mmark_eq, cal_some, if_b0, hm]; rfl, st.inv hx⟩
    | true =>
      have hm0 := hm
      obtain ⟨m, -, m7, rfl⟩ := (wn_nat (A := 0) (B := 7) (a := 0) (b := 7) rfl rfl (by omega) (by omega)).mp hm
      obtain ⟨r, h1, h2, r1, r2, st1, iv⟩ := ag_line (x := p) (fun h25 r25 => cal (fU_knownOf h25 r25 (nI m)) (fun r32 h32 => ret1 r32 h32)) (fun h17 => fM_known_L35 (fun x3_113 x4_113 h113 => (if x3_113 = 0 then (if x4_113 = 0 then ret1 2 h113 else ret1 1 h113) else (if x4_113 = 0 then ret1 0 h113 else ret1 3 h113))) (nI m) FU 0 0 0 h17) st hx hp (fun n l ln => ⟨_, fun h' c' e => by rw [known_eq w c' ln (by omega) e, cal_some]; rfl, fun h' m' e e2 => mknown_eq w m' ln (by omega) e e2⟩)
      exact ⟨r, h1, h2, by rw [hasPlace_eq cs, cal_some, if_b0, hc0, cond_true, isMark_eq, cal_some, if_b0, hm0, cond_true]; exact r1, by rw [mplace_eq st1.2.1, cal_some, if_b0, hc0, cond_true, mmark_eq, cal_some, if_b0, hm0, cond_true]; exact r2, iv⟩
theorem ag_changes (x y : Int32) : Agr (InvX SF) (fun h => fX_changes h x y) (fun h => fM_changes h x y) := by
  rintro h ⟨σ, w, ms, cs, kp, ho, hx⟩
  have st : ST σ h := ⟨w, ms, cs, kp, ho⟩
  have hP := PP_le w
  dsimp only
  unfold fX_changes fM_changes
  cases hc : wn x 0 (nI (σ 0 0 * σ 0 1) - 1) with
  | false => exact ⟨-1, h, h, by rw [hasPlace_eq cs, cal_some, if_b0, hc]; rfl, by rw [mplace_eq ms, cal_some, if_b0, hc]; rfl, st.inv hx⟩
  | true =>
    have hc0 := hc
    obtain ⟨p, hp, rfl⟩ := (wn_cnt (show σ 0 0 * σ 0 1 < 2 ^ 30 by have := hP.2; unfold PP at this; omega)).mp hc
    cases hm : wn y 0 7 with
    | false => exact ⟨-1, h, h, by rw [hasPlace_eq cs, cal_some, if_b0, hc0, cond_true, isMark_eq, cal_some, if_b0, hm]; rfl, by rw [mplace_eq ms, cal_some, if_b0, hc0, cond_true, mmark_eq, cal_some, if_b0, hm]; rfl, st.inv hx⟩
    | true =>
      have hm0 := hm
      obtain ⟨m, -, m7, rfl⟩ := (wn_nat (A := 0) (B := 7) (a := 0) (b := 7) rfl rfl (by omega) (by omega)).mp hm
      obtain ⟨r, h1, h2, r1, r2, st1, iv⟩ := ag_line (x := p) (fun h25 r25 => cal (fU_changesOf h25 r25 (nI m)) (fun r32 h32 => ret1 r32 h32)) (fun h17 => cal (fM_changesOf h17 (nI m)) (fun r29 h29 => ret1 r29 h29)) st hx hp (fun n l ln => ⟨_, fun h' c' e => by rw [changes_eq w c' ln (by omega) e, cal_some]; rfl, fun h' m' e e2 => by rw [mchanges_eq w m' ln (by omega) e e2, cal_some]; rfl⟩)
      exact ⟨r, h1, h2, by rw [hasPlace_eq cs, cal_some, if_b0, hc0, cond_true, isMark_eq, cal_some, if_b0, hm0, cond_true]; exact r1, by rw [mplace_eq st1.2.1, cal_some, if_b0, hc0, cond_true, mmark_eq, cal_some, if_b0, hm0, cond_true]; exact r2, iv⟩
end Changes
