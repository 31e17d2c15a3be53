/-! THE REFERENCE GOES THROUGH ALL WAYS -/
section Odo
variable {σ : Sg} {h : Hp}
/-- the ways of laying that may be, with this quarrel -/
def gd (σ : Sg) (L n : Nat) : Bool := vl σ (nth σ n) && cst σ (nth σ n) == L
theorem neg1_dec : ∀ j, j < 6 → nI j + (-1) = nI j - 1 := by decide +kernel
theorem FS.c {h0 h' : Hp} (fs : FS σ h0 h) (hc : ∀ k, k ≠ 51 → h' k = h k) : FS σ h0 h' := by
  refine ⟨⟨fun k k1 k2 => ?_, fun j hj => ?_⟩, ⟨?_, fun i hi => ?_⟩, fun i hi s hs => ?_, fun i j h1 h2 h3 s t h4 h5 => ?_⟩
  · rw [hc k (by omega)]; exact fs.1.1 k k1 k2
  · rw [hc 28 (by decide)]; exact fs.1.2 j hj
  · rw [hc 28 (by decide)]; exact fs.2.1.1
  · rw [hc 48 (by decide)]; exact fs.2.1.2 i hi
  · rw [hc 49 (by decide)]; exact fs.2.2.1 i hi s hs
  · rw [hc 50 (by decide)]; exact fs.2.2.2 i j h1 h2 h3 s t h4 h5
theorem find206 {K : Int32 → Hp → RO} {Q : RO → Prop} {h0 : Hp} {d : Nat → Nat} {x1 : Int32} (w : WF σ) (ms : MS σ h0) (fs : FS σ h0 h) (hd : ∀ x, x < mm σ → h 51 x = nI (d x) ∧ d x < PP σ) (hK1 : ∀ h', (∀ k, k ≠ 51 → h' k = h k) → (∀ x, x < mm σ → d x + 1 = PP σ) → Q (K (-1) h')) (hK2 : ∀ h' t, t < mm σ → (∀ k, k ≠ 51 → h' k = h k) → d t + 1 < PP σ → (∀ x, t < x → x < mm σ → d x + 1 = PP σ ∧ h' 51 x = 0) → (∀ x, x ≤ t → h' 51 x = nI (d x)) → Q (K (nI t) h')) : Q (fM_find_L206 K x1 FU (nI (mm σ) - 1) h) := by
  have hm := mm_le (σ := σ)
  have hP := PP_le w
  refine loopK (fun n (a : Int32 × Hp) => fM_find_L206 K x1 n a.1 a.2) (fun i a => a.1 = nI (mm σ - i) - 1 ∧ (∀ k, k ≠ 51 → a.2 k = h k) ∧ (∀ x, mm σ - i ≤ x → x < mm σ → d x + 1 = PP σ ∧ a.2 51 x = 0) ∧ ∀ x, x < mm σ - i → a.2 51 x = nI (d x)) Q (mm σ) (by omega) ?_ ?_ 0 (nI (mm σ) - 1, h) (by omega) ⟨rfl, fun _ _ => rfl, fun x a b => by omega, fun x hx => (hd x (by omega)).1⟩
  · rintro i ⟨x, h'⟩ n hi ⟨e1, e2, e3, e4⟩ hn
    dsimp only at e1 e2 e3 e4
    obtain ⟨t, ht⟩ : ∃ t, mm σ - i = t + 1 := ⟨mm σ - i - 1, by omega⟩
    rw [ht, nI_pred] at e1
    subst e1
    have ms' := (fs.c e2).1.ms ms
    obtain ⟨d1, d2⟩ := hd t (by omega)
    have e5 := e4 t (by omega)
    obtain ⟨P', hP'⟩ : ∃ P', PP σ = P' + 1 := ⟨PP σ - 1, by omega⟩
    show Q (fM_find_L206 K x1 (n + 1) (nI t) h')
    simp only [fM_find_L206]
    rw [if_neg (Int32.not_lt.mpr (nI_pos' (show t < 2 ^ 31 by omega))), rd_at t 5 rfl rfl (by omega), e5, mplaces_eq ms', cal_some, show σ 0 0 * σ 0 1 = P' + 1 from hP', nI_pred]
    by_cases c : d t = P'
    · rw [if_pos (by rw [c]), wr_at t 5 rfl rfl (by omega), neg1_dec t (by omega)]
      refine hn (nI t - 1, up h' 51 t 0) ?_
      dsimp only
      refine ⟨by rw [show mm σ - (i + 1) = t by omega], fun k hk => by rw [up_ne h' hk]; exact e2 k hk, fun x a b => ?_, fun x a => ?_⟩
      · rw [up_k]
        by_cases q : x = t
        · rw [q, upd_same]
          exact ⟨by omega, rfl⟩
        · rw [upd_ne q]
          exact e3 x (by omega) b
      · rw [up_k, upd_ne (by omega)]
        exact e4 x (by omega)
    · rw [if_neg (fun q => c ((nI_eq (by omega) (by omega)).mp q))]
      exact hK2 h' t (by omega) e2 (by omega) (fun x a b => e3 x (by omega) b) (fun x a => e4 x (by omega))
  · rintro ⟨x, h'⟩ n ⟨e1, e2, e3, e4⟩
    dsimp only at e1 e2 e3 e4
    rw [Nat.sub_self] at e1 e3
    subst e1
    show Q (fM_find_L206 K x1 (n + 1) (nI 0 - 1) h')
    simp only [fM_find_L206]
    rw [if_pos (show nI 0 - 1 < 0 by decide), show nI 0 - 1 = (-1 : Int32) by decide]
    exact hK1 h' e2 (fun x a => (e3 x (Nat.zero_le _) a).1)
/-- what is kept when N ways are done, and laying x1 is asked for -/
def FN (σ : Sg) (x1 : Int32) (h : Hp) (N L : Nat) : Prop := (h 28 30 = nI L ∧ L ≤ 1000000) ∧ (∀ n, n < N → vl σ (nth σ n) = true → L ≤ cst σ (nth σ n)) ∧ (L = 1000000 ∨ ∃ n, n < N ∧ gd σ L n = true) ∧ h 28 31 = nI (cntP (gd σ L) N) ∧ (∃ B : Nat → Nat, ∀ c, c < 30 → h 52 c = nI (B c) ∧ B c < 2 ^ 15 ∧ ∀ b, (B c).testBit b = true ↔ (c < σ 0 3 ∧ tkp σ (σ 6 c) = true ∧ ∃ n, n < N ∧ gd σ L n = true ∧ nth σ n (σ 6 c) + ofs σ c = b)) ∧ ∀ n, n < N → gd σ L n = true → x1 = nI (cntP (gd σ L) n) → ∀ i, tkp σ i = true → h 53 (rk σ i) = nI (nth σ n i)
theorem FN.c {x1 : Int32} {h' : Hp} {N L : Nat} (f : FN σ x1 h N L) (hc : ∀ k, k ≠ 51 → h' k = h k) : FN σ x1 h' N L := by
  unfold FN at f ⊢
  rw [hc 28 (by decide), hc 52 (by decide), hc 53 (by decide)]
  exact f
theorem gd_iff {L n : Nat} : gd σ L n = true ↔ vl σ (nth σ n) = true ∧ cst σ (nth σ n) = L := by
  unfold gd
  rw [Bool.and_eq_true, beq_iff_eq]
theorem FN.no {x1 : Int32} {N L : Nat} (f : FN σ x1 h N L) (hn : ¬ (vl σ (nth σ N) = true ∧ cst σ (nth σ N) ≤ L)) : FN σ x1 h (N + 1) L := by
  obtain ⟨f1, f2, f3, f4, ⟨B, f5⟩, f6⟩ := f
  have g : gd σ L N = false := by
    cases q : gd σ L N with
    | false => rfl
    | true =>
      have := gd_iff.mp q
      exact absurd ⟨this.1, by omega⟩ hn
  have lt : ∀ n, n < N + 1 → gd σ L n = true → n < N := fun n h1 h2 => by
    rcases (show n < N ∨ n = N by omega) with q | q
    · exact q
    · rw [q, g] at h2; exact absurd h2 (by decide)
  refine ⟨f1, fun n h1 h2 => ?_, ?_, by rw [cntP_f g]; exact f4, ⟨B, fun c hc => ⟨(f5 c hc).1, (f5 c hc).2.1, fun b => ?_⟩⟩, fun n h1 h2 => f6 n (lt n h1 h2) h2⟩
  · rcases (show n < N ∨ n = N by omega) with q | q
    · exact f2 n q h2
    · rw [q] at h2 ⊢
      rcases Nat.lt_or_ge L (cst σ (nth σ N)) with z | z
      · omega
      · exact absurd ⟨h2, z⟩ hn
  · rcases f3 with q | ⟨n, q1, q2⟩
    · exact Or.inl q
    · exact Or.inr ⟨n, by omega, q2⟩
  · rw [(f5 c hc).2.2 b]
    constructor
    · rintro ⟨a1, a2, n, a3, a4, a5⟩
      exact ⟨a1, a2, n, by omega, a4, a5⟩
    · rintro ⟨a1, a2, n, a3, a4, a5⟩
      exact ⟨a1, a2, n, lt n a3 a4, a4, a5⟩
theorem bit_or {a s b : Nat} : (a ||| 2 ^ s).testBit b = true ↔ (a.testBit b = true ∨ s = b) := by
  rw [Nat.testBit_or, Bool.or_eq_true, Nat.testBit_two_pow, decide_eq_true_eq]
theorem kl20 {K : Hp → RO} {x2 : Int32} {Q : RO → Prop} (hK : ∀ h', (∀ k, k ≠ 52 → h' k = h k) → (∀ c, c < 30 → h' 52 c = 0) → Q (K h')) : Q (fM_keepLaying_L20 K x2 FU 0 h) := by
  refine loopK (fun n (a : Int32 × Hp) => fM_keepLaying_L20 K x2 n a.1 a.2) (fun i a => a.1 = nI i ∧ (∀ k, k ≠ 52 → a.2 k = h k) ∧ ∀ c, c < i → a.2 52 c = 0) Q 30 (by omega) ?_ ?_ 0 (0, h) (by omega) ⟨rfl, fun _ _ => rfl, fun x hx => by omega⟩
  · rintro i ⟨x, h'⟩ n hi ⟨e1, e2, e3⟩ hn
    dsimp only at e1 e2 e3
    subst e1
    show Q (fM_keepLaying_L20 K x2 (n + 1) (nI i) h')
    simp only [fM_keepLaying_L20]
    rw [if_neg (fun q => by have := (n_le (X := 30) (a := 30) rfl rfl (by omega) (by omega)).mp q; omega), wr_at i 30 rfl rfl hi, n_s1]
    refine hn (nI (i + 1), up h' 52 i 0) ?_
    dsimp only
    refine ⟨rfl, fun k hk => by rw [up_ne h' hk]; exact e2 k hk, fun c hc => ?_⟩
    rw [up_k]
    by_cases q : c = i
    · rw [q, upd_same]
    · rw [upd_ne q]; exact e3 c (by omega)
  · rintro ⟨x, h'⟩ n ⟨e1, e2, e3⟩
    dsimp only at e1 e2 e3
    subst e1
    show Q (fM_keepLaying_L20 K x2 (n + 1) (nI 30) h')
    simp only [fM_keepLaying_L20]
    rw [if_pos (show (30 : Int32) ≤ nI 30 by decide)]
    exact hK h' e2 e3
theorem FS.c2 {h0 h' : Hp} (fs : FS σ h0 h) (hc : ∀ k, k ≠ 52 → h' k = h k) : FS σ h0 h' := by
  refine ⟨⟨fun k k1 k2 => ?_, fun j hj => ?_⟩, ⟨?_, fun i hi => ?_⟩, fun i hi s hs => ?_, fun i j h1 h2 h3 s t h4 h5 => ?_⟩
  · rw [hc k (by omega)]; exact fs.1.1 k k1 k2
  · rw [hc 28 (by decide)]; exact fs.1.2 j hj
  · rw [hc 28 (by decide)]; exact fs.2.1.1
  · rw [hc 48 (by decide)]; exact fs.2.1.2 i hi
  · rw [hc 49 (by decide)]; exact fs.2.2.1 i hi s hs
  · rw [hc 50 (by decide)]; exact fs.2.2.2 i j h1 h2 h3 s t h4 h5
theorem pt_eq (h : Hp) (k j : Nat) (v : Int32) (f : Hp → RO) : pt h k j v f = f (up h k j v) := by unfold pt; exact Eq.refl _
theorem jn_eq {τ : Type} (a : τ) (f : τ → RO) : jn a f = f a := by unfold jn; exact Eq.refl _
theorem kl_less {x x2 : Int32} (hn : ¬ (h 28 30 ≤ x)) : fM_keepLaying h x x2 = fM_keepLaying_L20 (fun h39 => fM_keepLaying_L41 (fun h154 => pt h154 28 31 ((h154 28 31) + 1) (fun h161 => ret1 0 h161)) x2 FU 0 h39) x2 FU 0 (up (up h 28 30 x) 28 31 0) := by
  unfold fM_keepLaying
  rw [jn_eq, if_neg hn, pt_eq, pt_eq]
theorem kl_more {x x2 : Int32} (hn : h 28 30 ≤ x) : fM_keepLaying h x x2 = fM_keepLaying_L41 (fun h154 => pt h154 28 31 ((h154 28 31) + 1) (fun h161 => ret1 0 h161)) x2 FU 0 h := by
  unfold fM_keepLaying
  rw [jn_eq, if_pos hn]
theorem keepLaying_eq {h0 : Hp} {d : Nat → Nat} {x1 : Int32} {N L : Nat} (w : WF σ) (ms : MS σ h0) (fs : FS σ h0 h) (hd : ∀ x, x < mm σ → h 51 x = nI (d x) ∧ d x < PP σ) (hv : ∀ i, tkp σ i = true → nth σ N i = d (rk σ i)) (hN : N < 99999) (f : FN σ x1 h N L) (h1 : vl σ (nth σ N) = true) (h2 : cst σ (nth σ N) ≤ L) : ∃ h', fM_keepLaying h (nI (cst σ (nth σ N))) x1 = some (0, h') ∧ FS σ h0 h' ∧ h' 51 = h 51 ∧ FN σ x1 h' (N + 1) (cst σ (nth σ N)) := by
  obtain ⟨f1, f2, f3, f4, ⟨B, f5⟩, f6⟩ := f
  have hnc := w.nc_le
  have hP := PP_le w
  have g : gd σ (cst σ (nth σ N)) N = true := gd_iff.mpr ⟨h1, rfl⟩
  have hsB : ∀ c, c < σ 0 3 → tkp σ (σ 6 c) = true → nth σ N (σ 6 c) + ofs σ c < 15 := fun c hc ht => by
    have := ofs_le w hc
    have := (hd _ (rk_lt w ht)).2
    rw [hv _ ht]
    omega
  by_cases e : L ≤ cst σ (nth σ N)
  · have e' : cst σ (nth σ N) = L := by omega
    rw [e'] at g ⊢
    rw [kl_more (by rw [f1.1]; exact Int32.le_refl _)]
    refine kl41 (Q := fun o => ∃ h', o = some (0, h') ∧ FS σ h0 h' ∧ h' 51 = h 51 ∧ FN σ x1 h' (N + 1) L) (B := B) w ms fs hd hv f4 (fun c hc => (f5 c hc).1) (fun h' fs' c1 c2 c3 => ?_)
    have hcn := cntP_le (gd σ L) N
    unfold pt
    dsimp only
    rw [c1 28 (by decide) (by decide), f4, n_s1]
    refine ⟨_, rfl, fs'.w28 (by decide), by rw [up_ne h' (by decide)]; exact c1 51 (by decide) (by decide), ?_⟩
    refine ⟨⟨by rw [up_k, upd_ne (by decide), c1 28 (by decide) (by decide)]; exact f1.1, f1.2⟩, fun n a1 a2 => ?_, Or.inr ⟨N, by omega, g⟩, by rw [up_k, upd_same, cntP_t g], ⟨fun c => if c < σ 0 3 ∧ tkp σ (σ 6 c) = true then B c ||| 2 ^ (nth σ N (σ 6 c) + ofs σ c) else B c, fun c hc => ?_⟩, fun n a1 a2 a3 i hi => ?_⟩
    · rcases (show n < N ∨ n = N by omega) with q | q
      · exact f2 n q a2
      · rw [q]; exact e
    · obtain ⟨b1, b2, b3⟩ := f5 c hc
      dsimp only
      refine ⟨by rw [up_ne h' (by decide)]; exact c2 c hc, ?_, fun b => ?_⟩
      · split
        · rename_i q
          exact Nat.or_lt_two_pow b2 (Nat.pow_lt_pow_right (by decide) (hsB c q.1 q.2))
        · exact b2
      · by_cases q : c < σ 0 3 ∧ tkp σ (σ 6 c) = true
        · rw [if_pos q, bit_or, b3 b]
          constructor
          · rintro (⟨p1, p2, n, p3, p4⟩ | p1)
            · exact ⟨p1, p2, n, by omega, p4⟩
            · exact ⟨q.1, q.2, N, by omega, g, p1⟩
          · rintro ⟨p1, p2, n, p3, p4, p5⟩
            rcases (show n < N ∨ n = N by omega) with z | z
            · exact Or.inl ⟨p1, p2, n, z, p4, p5⟩
            · rw [z] at p5; exact Or.inr p5
        · rw [if_neg q, b3 b]
          constructor
          · rintro ⟨p1, p2, -⟩
            exact absurd ⟨p1, p2⟩ q
          · rintro ⟨p1, p2, -⟩
            exact absurd ⟨p1, p2⟩ q
    · rw [up_ne h' (by decide), c3 _ (rk_lt w hi)]
      rcases (show n < N ∨ n = N by omega) with z | z
      · have := cntP_lt z a2
        rw [if_neg (fun q => by
          rw [a3] at q
          have := (nI_eq (by omega) (by omega)).mp q
          omega)]
        exact f6 n z a2 a3 i hi
      · rw [z] at a3 ⊢
        rw [if_pos a3.symm, hv i hi]
  · have b1 : L < 2 ^ 31 := by omega
    have b2 : cst σ (nth σ N) < 2 ^ 31 := by omega
    have nle : ¬ (h 28 30 ≤ nI (cst σ (nth σ N))) := fun q => by
      rw [f1.1] at q
      exact e ((nI_leI b1 b2).mp q)
    rw [kl_less nle]
    have fs1 : FS σ h0 (up (up h 28 30 (nI (cst σ (nth σ N)))) 28 31 0) := (fs.w28 (by decide)).w28 (by decide)
    refine kl20 (Q := fun o => ∃ h', o = some (0, h') ∧ FS σ h0 h' ∧ h' 51 = h 51 ∧ FN σ x1 h' (N + 1) (cst σ (nth σ N))) (fun h3 k1 k2 => ?_)
    have fs3 := fs1.c2 k1
    have e51 : h3 51 = h 51 := by rw [k1 51 (by decide), up_ne _ (by decide), up_ne _ (by decide)]
    have e28 : h3 28 31 = 0 := by rw [k1 28 (by decide), up_k, upd_same]
    have e30 : h3 28 30 = nI (cst σ (nth σ N)) := by rw [k1 28 (by decide), up_k, upd_ne (by decide), up_k, upd_same]
    refine kl41 (Q := fun o => ∃ h', o = some (0, h') ∧ FS σ h0 h' ∧ h' 51 = h 51 ∧ FN σ x1 h' (N + 1) (cst σ (nth σ N))) (d := d) (B := fun _ => 0) w ms fs3 (fun x hx => by rw [e51]; exact hd x hx) hv e28 k2 (fun h' fs' c1 c2 c3 => ?_)
    have z0 : ∀ n, n < N → gd σ (cst σ (nth σ N)) n = false := fun n hn => by
      cases q : gd σ (cst σ (nth σ N)) n with
      | false => rfl
      | true =>
        have q2 := gd_iff.mp q
        have := f2 n hn q2.1
        omega
    have zc : ∀ M, M ≤ N → cntP (gd σ (cst σ (nth σ N))) M = 0 := by
      intro M
      induction M with
      | zero => intro _; rfl
      | succ M ih =>
        intro hM
        rw [cntP_f (z0 M (by omega))]
        exact ih (by omega)
    have lt : ∀ n, n < N + 1 → gd σ (cst σ (nth σ N)) n = true → n = N := fun n a1 a2 => by
      rcases (show n < N ∨ n = N by omega) with q | q
      · rw [z0 n q] at a2; exact absurd a2 (by decide)
      · exact q
    unfold pt
    dsimp only
    rw [c1 28 (by decide) (by decide), e28, show (0 : Int32) + 1 = nI (0 + 1) by decide]
    refine ⟨_, rfl, fs'.w28 (by decide), by rw [up_ne h' (by decide), c1 51 (by decide) (by decide)]; exact e51, ?_⟩
    refine ⟨⟨by rw [up_k, upd_ne (by decide), c1 28 (by decide) (by decide)]; exact e30, by omega⟩, fun n a1 a2 => ?_, Or.inr ⟨N, by omega, g⟩, by rw [up_k, upd_same, cntP_t g, zc N (Nat.le_refl _)], ⟨fun c => if c < σ 0 3 ∧ tkp σ (σ 6 c) = true then 0 ||| 2 ^ (nth σ N (σ 6 c) + ofs σ c) else 0, fun c hc => ?_⟩, fun n a1 a2 a3 i hi => ?_⟩
    · rcases (show n < N ∨ n = N by omega) with q | q
      · have := f2 n q a2; omega
      · rw [q]; omega
    · dsimp only
      refine ⟨by rw [up_ne h' (by decide)]; exact c2 c hc, ?_, fun b => ?_⟩
      · split
        · rename_i q
          exact Nat.or_lt_two_pow (Nat.two_pow_pos 15) (Nat.pow_lt_pow_right (by decide) (hsB c q.1 q.2))
        · exact Nat.two_pow_pos 15
      · by_cases q : c < σ 0 3 ∧ tkp σ (σ 6 c) = true
        · rw [if_pos q, bit_or]
          constructor
          · rintro (p1 | p1)
            · rw [Nat.zero_testBit] at p1; exact absurd p1 (by decide)
            · exact ⟨q.1, q.2, N, by omega, g, p1⟩
          · rintro ⟨p1, p2, n, p3, p4, p5⟩
            rw [lt n p3 p4] at p5
            exact Or.inr p5
        · rw [if_neg q, Nat.zero_testBit]
          constructor
          · intro p; exact absurd p (by decide)
          · rintro ⟨p1, p2, -⟩
            exact absurd ⟨p1, p2⟩ q
    · have z := lt n a1 a2
      rw [z, zc N (Nat.le_refl _)] at a3
      rw [up_ne h' (by decide), c3 _ (rk_lt w hi), if_pos (show (0 : Int32) = x1 from a3.symm), z, hv i hi]
end Odo
