/-! THE REFERENCE'S SEARCH AS A WHOLE -/
section Find2
variable {σ : Sg} {h : Hp}
theorem find17 {K : Hp → RO} {x1 : Int32} {Q : RO → Prop} (hK : ∀ h', (∀ k, k ≠ 52 → h' k = h k) → (∀ c, c < 30 → h' 52 c = 0) → Q (K h')) : Q (fM_find_L17 K x1 FU 0 h) := by
  refine loopK (fun n (a : Int32 × Hp) => fM_find_L17 K x1 n a.1 a.2) (fun i a => a.1 = nI i ∧ (∀ k, k ≠ 52 → a.2 k = h k) ∧ ∀ c, c < i → a.2 52 c = 0) Q 30 (by omega) ?_ ?_ 0 (0, h) (by omega) ⟨rfl, fun _ _ => rfl, fun x hx => by omega⟩
  · rintro i ⟨x, h'⟩ n hi ⟨e1, e2, e3⟩ hn
    dsimp only at e1 e2 e3
    subst e1
    show Q (fM_find_L17 K x1 (n + 1) (nI i) h')
    simp only [fM_find_L17]
    rw [if_neg (fun q => by have := (n_le (X := 30) (a := 30) rfl rfl (by omega) (by omega)).mp q; omega), wr_at i 30 rfl rfl hi, n_s1]
    refine hn (nI (i + 1), up h' 52 i 0) ?_
    dsimp only
    refine ⟨rfl, fun k hk => by rw [up_ne h' hk]; exact e2 k hk, fun c hc => ?_⟩
    rw [up_k]
    by_cases q : c = i
    · rw [q, upd_same]
    · rw [upd_ne q]; exact e3 c (by omega)
  · rintro ⟨x, h'⟩ n ⟨e1, e2, e3⟩
    dsimp only at e1 e2 e3
    subst e1
    show Q (fM_find_L17 K x1 (n + 1) (nI 30) h')
    simp only [fM_find_L17]
    rw [if_pos (show (30 : Int32) ≤ nI 30 by decide)]
    exact hK h' e2 e3
theorem find38 {K : Hp → RO} {x1 : Int32} {Q : RO → Prop} (hK : ∀ h', (∀ k, k ≠ 51 → h' k = h k) → (∀ c, c < 5 → h' 51 c = 0) → Q (K h')) : Q (fM_find_L38 K x1 FU 0 h) := by
  refine loopK (fun n (a : Int32 × Hp) => fM_find_L38 K x1 n a.1 a.2) (fun i a => a.1 = nI i ∧ (∀ k, k ≠ 51 → a.2 k = h k) ∧ ∀ c, c < i → a.2 51 c = 0) Q 5 (by omega) ?_ ?_ 0 (0, h) (by omega) ⟨rfl, fun _ _ => rfl, fun x hx => by omega⟩
  · rintro i ⟨x, h'⟩ n hi ⟨e1, e2, e3⟩ hn
    dsimp only at e1 e2 e3
    subst e1
    show Q (fM_find_L38 K x1 (n + 1) (nI i) h')
    simp only [fM_find_L38]
    rw [if_neg (fun q => by have := (n_le (X := 5) (a := 5) rfl rfl (by omega) (by omega)).mp q; omega), wr_at i 5 rfl rfl hi, n_s1]
    refine hn (nI (i + 1), up h' 51 i 0) ?_
    dsimp only
    refine ⟨rfl, fun k hk => by rw [up_ne h' hk]; exact e2 k hk, fun c hc => ?_⟩
    rw [up_k]
    by_cases q : c = i
    · rw [q, upd_same]
    · rw [upd_ne q]; exact e3 c (by omega)
  · rintro ⟨x, h'⟩ n ⟨e1, e2, e3⟩
    dsimp only at e1 e2 e3
    subst e1
    show Q (fM_find_L38 K x1 (n + 1) (nI 5) h')
    simp only [fM_find_L38]
    rw [if_pos (show (5 : Int32) ≤ nI 5 by decide)]
    exact hK h' e2 e3
theorem tot_le (w : WF σ) : 1 ≤ tot σ ∧ tot σ ≤ 59049 := by
  have hP := PP_le w
  have hm := mm_le (σ := σ)
  unfold tot
  constructor
  · exact Nat.pow_pos (by omega)
  · have h1 : PP σ ^ mm σ ≤ 9 ^ mm σ := Nat.pow_le_pow_left hP.2 _
    have h2 : 9 ^ mm σ ≤ 9 ^ 5 := Nat.pow_le_pow_right (by decide) hm
    have h3 : 9 ^ 5 = 59049 := by decide
    omega
theorem find58 {h0 : Hp} {x1 : Int32} (w : WF σ) (ms : MS σ h0) (fs : FS σ h0 h) (h51 : ∀ x, x < 5 → h 51 x = 0) (f : FN σ x1 h 0 1000000) : ∃ h' L, fM_find_L58 x1 FU 1 h = some (0, h') ∧ FS σ h0 h' ∧ FN σ x1 h' (tot σ) L := by
  have hP := PP_le w
  have hm := mm_le (σ := σ)
  have ht := tot_le w
  refine loopK (fun n (a : Int32 × Hp) => fM_find_L58 x1 n a.1 a.2) (fun N a => FS σ h0 a.2 ∧ (∃ L, FN σ x1 a.2 N L) ∧ (N = tot σ → a.1 = 0) ∧ (N < tot σ → a.1 = 1 ∧ ∃ d : Nat → Nat, (∀ x, x < mm σ → a.2 51 x = nI (d x) ∧ d x < PP σ) ∧ vD (PP σ) d 0 (mm σ) = N)) (fun o => ∃ h' L, o = some (0, h') ∧ FS σ h0 h' ∧ FN σ x1 h' (tot σ) L) (tot σ) (by omega) ?_ ?_ 0 (1, h) (by omega) ⟨fs, ⟨1000000, f⟩, fun q => by omega, fun _ => ⟨rfl, fun _ => 0, fun x hx => ⟨h51 x (by omega), show 0 < PP σ by omega⟩, vD_zero (fun _ _ _ => rfl)⟩⟩
  · rintro N ⟨x, h'⟩ n hN ⟨fs', ⟨L, f'⟩, -, e2⟩ hn
    obtain ⟨e3, d, hd, hV⟩ := e2 hN
    dsimp only at fs' f' e3 hd
    subst e3
    have hv : ∀ i, tkp σ i = true → nth σ N i = d (rk σ i) := fun i hi => by
      have q := asg_dig (P := PP σ) (sel := tkp σ) (d := d) (r := 5) (i := 0) (v := fun _ => 0) (fun x _ b => by
        rw [tn_mm, show cntP (tkp σ) 0 = 0 from rfl, Nat.zero_add] at b
        exact (hd x b).2) i
      rw [tn_mm, show cntP (tkp σ) 0 = 0 from rfl, hV] at q
      unfold nth
      rw [q, if_pos ⟨Nat.zero_le _, by have := (tkp_lt hi).1; have := w.1.2.2.2.2.2.1; omega, hi⟩]
    show ∃ h2 L, fM_find_L58 x1 (n + 1) 1 h' = some (0, h2) ∧ _
    rw [fM_find_L58, if_neg (show ¬ (1 : Int32) = 0 by decide)]
    -- the step to the next way
    have step : ∀ h2, FS σ h0 h2 → h2 51 = h' 51 → (∃ L, FN σ x1 h2 (N + 1) L) → ∃ h3 L, (jn (τ := Hp → RO) (fun h198 =>
      bnd ((h198 28 25) - 1) (fun v204 =>
      fM_find_L206 (fun x5_241 h241 =>
      jn (τ := Int32 → Hp → RO) (fun s251 h251 =>
      jn (τ := Hp → RO) (fun h267 =>
      fM_find_L58 x1 n s251 h267) (fun j267 =>
      (if s251 = 0 then
      j267 h251
      else
      rd h251 51 x5_241 (fun r263 =>
      wr h251 51 x5_241 (r263 + 1) (fun h266 =>
      j267 h266))))) (fun j251 =>
      (if x5_241 < 0 then
      j251 0 h241
      else
      j251 1 h241))) x1 FU v204 h198)) (fun j198 => j198 h2)) = some (0, h3) ∧ FS σ h0 h3 ∧ FN σ x1 h3 (tot σ) L := by
      rintro h2 fs2 e51 ⟨L2, f2⟩
      rw [jn_eq]
      dsimp only [bnd]
      rw [fs2.2.1.1]
      refine find206 (Q := fun o => ∃ h3 L, o = some (0, h3) ∧ FS σ h0 h3 ∧ FN σ x1 h3 (tot σ) L) (d := d) w ms fs2 (fun x hx => by rw [e51]; exact hd x hx) (fun h3 c1 c2 => ?_) (fun h3 t t1 c1 c2 c3 c4 => ?_)
      · rw [jn_eq, if_pos (show (-1 : Int32) < 0 by decide)]
        dsimp only
        rw [jn_eq, if_pos rfl]
        have hl : N + 1 = tot σ := by
          rw [← hV]
          exact vD_max (by omega) (fun x _ b => c2 x (by omega))
        exact hn (0, h3) ⟨fs2.c c1, ⟨L2, f2.c c1⟩, fun _ => rfl, fun q => by omega⟩
      · rw [jn_eq, if_neg (Int32.not_lt.mpr (nI_pos' (show t < 2 ^ 31 by omega)))]
        dsimp only
        rw [jn_eq, if_neg (show ¬ (1 : Int32) = 0 by decide), rd_at t 5 rfl rfl (by omega), wr_at t 5 rfl rfl (by omega), c4 t (Nat.le_refl _), n_s1]
        have c1' : ∀ k, k ≠ 51 → up h3 51 t (nI (d t + 1)) k = h2 k := fun k hk => by rw [up_ne h3 hk]; exact c1 k hk
        have dl : vD (PP σ) (fun x => if x = t then d t + 1 else if t < x then 0 else d x) 0 (mm σ) = N + 1 := by
          rw [← hV]
          refine vD_inc (t := t) (by omega) ?_ (Nat.zero_le _) (by omega) (fun x _ b => ?_) (fun x a b => ⟨(c3 x a (by omega)).1, ?_⟩)
          · rw [if_pos rfl]
          · rw [if_neg (by omega), if_neg (by omega)]
          · rw [if_neg (by omega), if_pos a]
        have dd : ∀ x, x < mm σ → (fun x => if x = t then d t + 1 else if t < x then 0 else d x) x < PP σ := fun x hx => by
          have := (hd x hx).2
          dsimp only
          split
          · omega
          · split <;> omega
        have lt : N + 1 < tot σ := by
          rw [← dl]
          exact vD_lt (fun x _ b => dd x (by omega))
        refine hn (1, up h3 51 t (nI (d t + 1))) ⟨fs2.c c1', ⟨L2, f2.c c1'⟩, fun q => by omega, fun _ => ⟨rfl, _, fun x hx => ⟨?_, dd x hx⟩, dl⟩⟩
        show up h3 51 t (nI (d t + 1)) 51 x = nI (if x = t then d t + 1 else if t < x then 0 else d x)
        rw [up_k]
        by_cases q : x = t
        · rw [q, upd_same, if_pos rfl]
        · rw [upd_ne q, if_neg q]
          by_cases q2 : t < x
          · rw [if_pos q2, (c3 x q2 hx).2]; rfl
          · rw [if_neg q2]; exact c4 x (by omega)
    refine find70 (Q := fun o => ∃ h3 L, o = some (0, h3) ∧ FS σ h0 h3 ∧ FN σ x1 h3 (tot σ) L) (v := nth σ N) (d := d) w fs' hd hv f'.1.1 f'.1.2 (fun c hc => ?_) (fun h1 h2 => ?_)
    · obtain ⟨h3, L3, s1, s2⟩ := step h' fs' rfl ⟨L, f'.no hc⟩
      refine ⟨h3, L3, ?_, s2⟩
      rw [jn_eq] at s1 ⊢
      rw [if_pos rfl]
      exact s1
    · obtain ⟨h3, k1, k2, k3, k4⟩ := keepLaying_eq w ms fs' hd hv (by omega) f' h1 h2
      obtain ⟨h4, L3, s1, s2⟩ := step h3 k2 k3 ⟨_, k4⟩
      refine ⟨h4, L3, ?_, s2⟩
      rw [jn_eq] at s1 ⊢
      rw [if_neg (show ¬ (1 : Int32) = 0 by decide), k1, cal_some]
      exact s1
  · rintro ⟨x, h'⟩ n ⟨fs', ⟨L, f'⟩, e1, -⟩
    dsimp only at fs' f' e1
    have e1 := e1 rfl
    subst e1
    show ∃ h2 L, fM_find_L58 x1 (n + 1) 0 h' = some (0, h2) ∧ _
    rw [fM_find_L58, if_pos rfl]
    exact ⟨h', L, rfl, fs', f'⟩
/-- all that the reference's search tells -/
theorem find_eq (w : WF σ) (ms : MS σ h) (x1 : Int32) : ∃ h' L, fM_find h x1 = some (0, h') ∧ FS σ h h' ∧ FN σ x1 h' (tot σ) L := by
  obtain ⟨h1, p1, p2, p3, p4, p5⟩ := prepare_eq w ms
  unfold fM_find
  rw [p1, cal_some, pt_eq, pt_eq]
  have fs2 : FS σ h (up (up h1 28 30 1000000) 28 31 0) := FS.w28 (FS.w28 ⟨p2, p3, p4, p5⟩ (by decide)) (by decide)
  refine find17 (Q := fun o => ∃ h' L, o = some (0, h') ∧ FS σ h h' ∧ FN σ x1 h' (tot σ) L) (fun h3 c1 c2 => ?_)
  refine find38 (Q := fun o => ∃ h' L, o = some (0, h') ∧ FS σ h h' ∧ FN σ x1 h' (tot σ) L) (fun h4 c3 c4 => ?_)
  refine find58 w ms ((fs2.c2 c1).c c3) c4 ?_
  refine ⟨⟨?_, Nat.le_refl _⟩, fun n hn => by omega, Or.inl rfl, ?_, ⟨fun _ => 0, fun c hc => ⟨?_, Nat.two_pow_pos 15, fun b => ?_⟩⟩, fun n hn => by omega⟩
  · rw [c3 28 (by decide), c1 28 (by decide), up_k, upd_ne (by decide), up_k, upd_same]
    rfl
  · rw [c3 28 (by decide), c1 28 (by decide), up_k, upd_same]
    rfl
  · rw [c3 52 (by decide), c2 c hc]
    rfl
  · rw [Nat.zero_testBit]
    constructor
    · intro q; exact absurd q (by decide)
    · rintro ⟨-, -, n, hn, -⟩; omega
end Find2
