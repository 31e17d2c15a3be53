/-! KNOWN, CHANGES, BREAKS -/
section Marks
variable {σ : Sg} {h : Hp}
def anP (f : Nat → Bool) : Nat → Bool
  | 0 => false
  | n + 1 => anP f n || f n
theorem anP_mono {f : Nat → Bool} {a : Nat} (ha : anP f a = true) : ∀ d, anP f (a + d) = true
  | 0 => ha
  | d + 1 => by
    show (anP f (a + d) || f (a + d)) = true
    rw [anP_mono ha d]
    rfl
/-- the marks of a line -/
abbrev mkL (σ : Sg) (m : Nat) (l : Nat → Nat) (i : Nat) : Nat := σ 7 (8 * l i + m)
def kn (a b : Bool) : Nat := if a then (if b then 3 else 0) else (if b then 1 else 2)
theorem mk2 {n m i : Nat} {l : Nat → Nat} (w : WF σ) (ln : LN σ n l) (hm : m < 8) (hi : i < n) : mkL σ m l i ≤ 2 := (w.2.2.2.2.1 _ (ln.2.1 i hi)).1 m hm
theorem known_eq {n m : Nat} {l : Nat → Nat} (w : WF σ) (cs : CS σ h) (ln : LN σ n l) (hm : m < 8) (h27 : ∀ i, i < n → h 27 i = nI (l i)) : fU_knownOf h (nI n) (nI m) = some (nI (kn (anP (fun i => mkL σ m l i == 0) n) (anP (fun i => mkL σ m l i == 1) n)), h) := by
  have n5 := ln.1
  unfold fU_knownOf
  refine loopK (fun k (a : Int32 × Int32 × Hp) => fU_knownOf_L5 (nI n) (nI m) k a.1 a.2.1 a.2.2) (fun i a => a.1 = nI (kn (anP (fun i => mkL σ m l i == 0) i) (anP (fun i => mkL σ m l i == 1) i)) ∧ (anP (fun i => mkL σ m l i == 0) i && anP (fun i => mkL σ m l i == 1) i) = false ∧ a.2.1 = nI i ∧ a.2.2 = h) (fun o => o = some (nI (kn (anP (fun i => mkL σ m l i == 0) n) (anP (fun i => mkL σ m l i == 1) n)), h)) n (by omega) ?_ ?_ 0 (2, 0, h) (by omega) ⟨rfl, rfl, rfl, rfl⟩
  · rintro i ⟨x, y, h'⟩ k hi ⟨e1, e2, e3, e4⟩ hn
    dsimp only at e1 e3 e4
    subst e1 e3 e4
    have m2 := mk2 w ln hm hi
    show fU_knownOf_L5 (nI n) (nI m) (k + 1) (nI (kn (anP (fun i => mkL σ m l i == 0) i) (anP (fun i => mkL σ m l i == 1) i))) (nI i) h' = _
    rw [fU_knownOf_L5, if_neg (fun z => by have := (nI_leI (by omega) (by omega)).mp z; omega), rd_at i 5 rfl rfl (by omega), h27 i hi, markOf_eq w cs (ln.2.1 i hi) hm, cal_some, jn_eq, n_s1]
    have s0 : anP (fun i => mkL σ m l i == 0) (i + 1) = (anP (fun i => mkL σ m l i == 0) i || mkL σ m l i == 0) := rfl
    have s1 : anP (fun i => mkL σ m l i == 1) (i + 1) = (anP (fun i => mkL σ m l i == 1) i || mkL σ m l i == 1) := rfl
    have go : ∀ v : Nat, v = kn (anP (fun i => mkL σ m l i == 0) (i + 1)) (anP (fun i => mkL σ m l i == 1) (i + 1)) → (anP (fun i => mkL σ m l i == 0) (i + 1) && anP (fun i => mkL σ m l i == 1) (i + 1)) = false → fU_knownOf_L5 (nI n) (nI m) k (nI v) (nI (i + 1)) h' = some (nI (kn (anP (fun i => mkL σ m l i == 0) n) (anP (fun i => mkL σ m l i == 1) n)), h') := fun v ev ef => hn (nI v, nI (i + 1), h') ⟨by rw [ev], ef, rfl, rfl⟩
    have stop : (anP (fun i => mkL σ m l i == 0) (i + 1) && anP (fun i => mkL σ m l i == 1) (i + 1)) = true → ret1 3 h' = some (nI (kn (anP (fun i => mkL σ m l i == 0) n) (anP (fun i => mkL σ m l i == 1) n)), h') := fun z => by
      rw [Bool.and_eq_true] at z
      have z1 := anP_mono z.1 (n - (i + 1))
      have z2 := anP_mono z.2 (n - (i + 1))
      rw [show i + 1 + (n - (i + 1)) = n by omega] at z1 z2
      rw [z1, z2]
      rfl
    rw [s0, s1] at go stop
    dsimp only
    rcases (show mkL σ m l i = 0 ∨ mkL σ m l i = 1 ∨ mkL σ m l i = 2 by omega) with c | c | c
    · rw [c] at go stop
      rw [show σ 7 (8 * l i + m) = 0 from c]
      cases a0 : anP (fun i => mkL σ m l i == 0) i with
      | true =>
        rw [a0] at e2 go stop
        cases a1 : anP (fun i => mkL σ m l i == 1) i with
        | true => rw [a1] at e2; exact absurd e2 (by decide)
        | false =>
          rw [a1] at go
          rw [if_neg (show ¬ nI (kn true false) = 2 by decide), if_neg (show ¬ nI 0 = 2 by decide), if_pos (show nI 0 = nI (kn true false) from rfl)]
          exact go 0 rfl rfl
      | false =>
        rw [a0] at go stop
        cases a1 : anP (fun i => mkL σ m l i == 1) i with
        | true =>
          rw [a1] at stop
          rw [if_neg (show ¬ nI (kn false true) = 2 by decide), if_neg (show ¬ nI 0 = 2 by decide), if_neg (show ¬ nI 0 = nI (kn false true) by decide)]
          exact stop rfl
        | false =>
          rw [a1] at go
          rw [if_pos (show nI (kn false false) = 2 from rfl)]
          exact go 0 rfl rfl
    · rw [c] at go stop
      rw [show σ 7 (8 * l i + m) = 1 from c]
      cases a0 : anP (fun i => mkL σ m l i == 0) i with
      | true =>
        rw [a0] at e2 go stop
        cases a1 : anP (fun i => mkL σ m l i == 1) i with
        | true => rw [a1] at e2; exact absurd e2 (by decide)
        | false =>
          rw [a1] at stop
          rw [if_neg (show ¬ nI (kn true false) = 2 by decide), if_neg (show ¬ nI 1 = 2 by decide), if_neg (show ¬ nI 1 = nI (kn true false) by decide)]
          exact stop rfl
      | false =>
        rw [a0] at go stop
        cases a1 : anP (fun i => mkL σ m l i == 1) i with
        | true =>
          rw [a1] at go
          rw [if_neg (show ¬ nI (kn false true) = 2 by decide), if_neg (show ¬ nI 1 = 2 by decide), if_pos (show nI 1 = nI (kn false true) from rfl)]
          exact go 1 rfl rfl
        | false =>
          rw [a1] at go
          rw [if_pos (show nI (kn false false) = 2 from rfl)]
          exact go 1 rfl rfl
    · rw [c] at go
      rw [show σ 7 (8 * l i + m) = 2 from c]
      cases a0 : anP (fun i => mkL σ m l i == 0) i with
      | true =>
        rw [a0] at e2 go
        cases a1 : anP (fun i => mkL σ m l i == 1) i with
        | true => rw [a1] at e2; exact absurd e2 (by decide)
        | false =>
          rw [a1] at go
          rw [if_neg (show ¬ nI (kn true false) = 2 by decide), if_pos (show nI 2 = 2 from rfl)]
          exact go 0 rfl rfl
      | false =>
        rw [a0] at go
        cases a1 : anP (fun i => mkL σ m l i == 1) i with
        | true =>
          rw [a1] at go
          rw [if_neg (show ¬ nI (kn false true) = 2 by decide), if_pos (show nI 2 = 2 from rfl)]
          exact go 1 rfl rfl
        | false =>
          rw [a1] at go
          rw [if_pos (show nI (kn false false) = 2 from rfl)]
          exact go 2 rfl rfl
  · rintro ⟨x, y, h'⟩ k ⟨e1, e2, e3, e4⟩
    dsimp only at e1 e3 e4
    subst e1 e3 e4
    show fU_knownOf_L5 (nI n) (nI m) (k + 1) _ (nI n) h' = _
    rw [fU_knownOf_L5, if_pos (Int32.le_refl _)]
    rfl
theorem ix8 (c m : Nat) : (8 : Int32) * nI c + nI m = nI (8 * c + m) := n_ix' (Mm := 8) (m := 8) rfl rfl
theorem mknown_eq {n m : Nat} {l : Nat → Nat} (w : WF σ) (ms : MS σ h) (ln : LN σ n l) (hm : m < 8) (h34 : h 28 34 = nI n) (h54 : ∀ i, i < n → h 54 i = nI (l i)) : fM_known_L35 (fun x3_113 x4_113 h113 => (if x3_113 = 0 then (if x4_113 = 0 then ret1 2 h113 else ret1 1 h113) else (if x4_113 = 0 then ret1 0 h113 else ret1 3 h113))) (nI m) FU 0 0 0 h = some (nI (kn (anP (fun i => mkL σ m l i == 0) n) (anP (fun i => mkL σ m l i == 1) n)), h) := by
  have n5 := ln.1
  have c30 := w.nc_le
  refine loopS (fun k (a : Int32 × Int32 × Int32 × Hp) => fM_known_L35 (fun x3_113 x4_113 h113 => (if x3_113 = 0 then (if x4_113 = 0 then ret1 2 h113 else ret1 1 h113) else (if x4_113 = 0 then ret1 0 h113 else ret1 3 h113))) (nI m) k a.1 a.2.1 a.2.2.1 a.2.2.2) (fun i => (bI (anP (fun i => mkL σ m l i == 0) i), bI (anP (fun i => mkL σ m l i == 1) i), nI i, h)) _ n (by omega) ?_ ?_ 0 (by omega)
  · intro i k hi
    show fM_known_L35 _ (nI m) (k + 1) (bI (anP (fun i => mkL σ m l i == 0) i)) (bI (anP (fun i => mkL σ m l i == 1) i)) (nI i) h = fM_known_L35 _ (nI m) k (bI (anP (fun i => mkL σ m l i == 0) i || mkL σ m l i == 0)) (bI (anP (fun i => mkL σ m l i == 1) i || mkL σ m l i == 1)) (nI (i + 1)) h
    have m2 := mk2 w ln hm hi
    have lc := ln.2.1 i hi
    rw [fM_known_L35, h34, if_neg (fun z => by have := (nI_leI (by omega) (by omega)).mp z; omega)]
    have R1 : ∀ f, rd h 54 (nI i) f = f (nI (l i)) := fun f => by rw [rd_at i 30 rfl rfl (by omega), h54 i hi]
    have R2 : ∀ f, rd h 35 (nI (8 * l i + m)) f = f (nI (σ 7 (8 * l i + m))) := fun f => by rw [rd_at (8 * l i + m) 240 rfl rfl (by omega), ms.a7 (by omega)]
    simp only [jn_eq, R1, ix8, R2]
    rw [n_s1]
    rcases (show mkL σ m l i = 0 ∨ mkL σ m l i = 1 ∨ mkL σ m l i = 2 by omega) with c | c | c
    · rw [c, show σ 7 (8 * l i + m) = 0 from c]
      cases anP (fun i => mkL σ m l i == 0) i <;> cases anP (fun i => mkL σ m l i == 1) i <;> rfl
    · rw [c, show σ 7 (8 * l i + m) = 1 from c, if_neg (show ¬ nI 1 = 0 by decide)]
      cases anP (fun i => mkL σ m l i == 0) i <;> cases anP (fun i => mkL σ m l i == 1) i <;> rfl
    · rw [c, show σ 7 (8 * l i + m) = 2 from c, if_neg (show ¬ nI 2 = 0 by decide), if_neg (show ¬ nI 2 = 1 by decide)]
      cases anP (fun i => mkL σ m l i == 0) i <;> cases anP (fun i => mkL σ m l i == 1) i <;> rfl
  · intro k
    show fM_known_L35 _ (nI m) (k + 1) (bI (anP (fun i => mkL σ m l i == 0) n)) (bI (anP (fun i => mkL σ m l i == 1) n)) (nI n) h = _
    rw [fM_known_L35, h34, if_pos (Int32.le_refl _)]
    cases anP (fun i => mkL σ m l i == 0) n <;> cases anP (fun i => mkL σ m l i == 1) n <;> rfl
end Marks
