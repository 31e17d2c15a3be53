/-! LAYING -/
section Laying
variable {σ : Sg} {gr : Nat → Nat} {h : Hp}
theorem pick4 {Q : RO → Prop} {K : Hp → RO} {x2 : Int32} (hK : ∀ h', (∀ k, k ≠ 16 → k ≠ 20 → h' k = h k) → (∀ q, q < 5 → h' 16 q = h 17 q ∧ h' 20 q = h 19 q) → Q (K h')) : Q (fS_pick_L4 K x2 FU 0 h) := by
  refine loopK (fun n (x : Int32 × Hp) => fS_pick_L4 K x2 n x.1 x.2) (fun i x => x.1 = nI i ∧ (∀ k, k ≠ 16 → k ≠ 20 → x.2 k = h k) ∧ ∀ q, q < i → x.2 16 q = h 17 q ∧ x.2 20 q = h 19 q) Q 5 (by omega) ?_ ?_ 0 (0, h) (by omega) ⟨rfl, fun _ _ _ => rfl, fun q hq => by omega⟩
  · rintro i ⟨x, h'⟩ n hi ⟨e1, e2, e3⟩ hn
    dsimp only at e1 e2 e3
    subst e1
    show Q (fS_pick_L4 K x2 (n + 1) (nI i) h')
    rw [fS_pick_L4, if_neg (fun z => by have := (n_le (X := 5) (a := 5) rfl rfl (by omega) (by omega)).mp z; omega), rd_at i 5 rfl rfl hi, wr_at i 5 rfl rfl hi, rd_at i 5 rfl rfl hi, wr_at i 5 rfl rfl hi, n_s1, up_ne h' (show 19 ≠ 16 by decide), e2 17 (by decide) (by decide), e2 19 (by decide) (by decide)]
    refine hn (nI (i + 1), up (up h' 16 i (h 17 i)) 20 i (h 19 i)) ⟨rfl, fun k k1 k2 => ?_, fun q hq => ?_⟩
    · show up (up h' 16 i (h 17 i)) 20 i (h 19 i) k = _
      rw [up_ne _ k2, up_ne _ k1]
      exact e2 k k1 k2
    · show up (up h' 16 i (h 17 i)) 20 i (h 19 i) 16 q = _ ∧ up (up h' 16 i (h 17 i)) 20 i (h 19 i) 20 q = _
      rw [up_ne _ (show 16 ≠ 20 by decide), up_k, up_k, up_ne _ (show 20 ≠ 16 by decide)]
      by_cases e : q = i
      · rw [e, upd_same, upd_same]
        exact ⟨rfl, rfl⟩
      · rw [upd_ne e, upd_ne e]
        exact e3 q (by omega)
  · rintro ⟨x, h'⟩ n ⟨e1, e2, e3⟩
    dsimp only at e1 e2 e3
    subst e1
    show Q (fS_pick_L4 K x2 (n + 1) (nI 5) h')
    rw [fS_pick_L4, if_pos (show (5 : Int32) ≤ nI 5 by decide)]
    exact hK h' e2 e3
theorem pick_K {Q : RO → Prop} {b : Nat → Nat} {n0 k : Nat} (w : WF σ) (G : GRP σ gr) (gh : GH σ gr h) (g3 : h 3 3 = nI (PP σ)) (h13 : ∀ q, q < 5 → h 13 q = bI (tkp σ q)) (sg : SG σ gr 5 b h) (hn : n0 < tot σ) (hg : gd σ (Lsum σ gr (Lm σ gr)) n0 = true) (hk : k = cntP (gd σ (Lsum σ gr (Lm σ gr))) n0) (hK : ∀ h', (∀ k, k ≠ 16 → k ≠ 17 → k ≠ 20 → k ≠ 21 → k ≠ 22 → h' k = h k) → BS b h' → (∀ g, lead σ gr g = true → ∀ y, y < 45 → h' 22 (45 * g + y) = 0) → (∀ i, tkp σ i = true → h' 21 i = nI (nth σ n0 i)) → Q (some (0, h'))) : Q (fS_pick h (nI k)) := by
  have hL := SG_L w sg
  have bf := SG_bf w G sg
  have hP := PP_le w
  have fa : ∀ n, n < tot σ → Fa σ gr (nth σ n) = if gd σ (Lsum σ gr (Lm σ gr)) n then 1 else 0 := fun n hn => (good_ind w G hL (nth_in w hn)).symm
  have f1 : Fa σ gr (nth σ n0) = 1 := by rw [fa n0 hn, hg]; rfl
  have ub : ∀ j, tkp σ j = true → (b j).testBit (nth σ n0 j) = true := fun j hj => (b_iff w G hL sg j _).mpr ⟨hj, n0, hn, hg, rfl⟩
  unfold fS_pick
  refine pick4 (fun h1 f2 f3 => ?_)
  refine loopK (fun n (x : Int32 × Int32 × Hp) => fS_pick_L41 n x.1 x.2.1 x.2.2) (fun p x => x.2.1 = nI p ∧ ∃ v m left, x.1 = nI left ∧ PI σ gr b (nth σ n0) h p v x.2.2 ∧ O16 σ b (nth σ n0) p x.2.2 ∧ SK σ gr (nth σ n0) p v m left) Q 5 (by omega) ?_ ?_ 0 (nI k, 0, h1) (by omega) ⟨rfl, v0, n0, k, rfl, ⟨fun k k1 k2 k3 k4 k5 => f2 k k1 k3, fun q hq => ?_, fun g lg y hy => ?_, fun g lg => ?_, fun j hj => by omega, fun j hj => ?_, fun j hj => by omega⟩, fun q hq => ?_, ⟨?_, rfl, ?_⟩⟩
  · rintro p ⟨x, y, h'⟩ n hp ⟨e1, v, m, left, e2, e3, e4, e5⟩ hn'
    dsimp only at e1 e2 e3 e4
    subst e1 e2
    show Q (fS_pick_L41 (n + 1) (nI left) (nI p) h')
    rw [fS_pick_L41, if_neg (fun z => by have := (n_le (X := 5) (a := 5) rfl rfl (by omega) (by omega)).mp z; omega), rdz_at p 5 rfl rfl hp, jn_eq, e3.1 13 (by decide) (by decide) (by decide) (by decide) (by decide), h13 p hp, if_b0, n_s1]
    cases tp : tkp σ p with
    | false =>
      rw [cond_false]
      refine hn' (nI left, nI (p + 1), h') ⟨rfl, v, m, left, rfl, ⟨e3.1, e3.2.1, e3.2.2.1, fun g lg => ?_, fun j j1 j2 => ?_, e3.2.2.2.2.2.1, fun j j1 j2 => ?_⟩, fun q hq => ?_, SK_f hp tp e5⟩
      · rw [Tg_skip hp tp]
        exact e3.2.2.2.1 g lg
      · have : j ≠ p := fun z => by rw [z, tp] at j2; exact absurd j2 (by decide)
        exact e3.2.2.2.2.1 j (by omega) j2
      · have : j ≠ p := fun z => by rw [z, tp] at j2; exact absurd j2 (by decide)
        exact e3.2.2.2.2.2.2 j (by omega) j2
      · show h' 16 q = _
        rw [e4 q hq]
        cases tq : tkp σ q with
        | false => rw [Bool.and_false, Bool.and_false]
        | true =>
          have : q ≠ p := fun z => by rw [z, tp] at tq; exact absurd tq (by decide)
          rw [Bool.and_true, Bool.and_true]
          by_cases z : q < p
          · rw [decide_eq_true z, decide_eq_true (show q < p + 1 by omega)]
          · rw [decide_eq_false z, decide_eq_false (show ¬ q < p + 1 by omega)]
    | true =>
      rw [cond_true]
      refine pickSpot_K (Q := fun o => Q (cal o _)) (h := h') (b := b) (u0 := nth σ n0) (h0 := h) w G gh g3 h13 (fun g lg => (sg.1 g (tkp5 w (lead_iff.mp lg).1) lg).1) bf sg.2.2.1 hL f1 ub tp e3 e4 e5 (fun h2 v' m' left' i1 i2 i3 => ?_)
      rw [cal_some]
      exact hn' (nI left', nI (p + 1), h2) ⟨rfl, v', m', left', rfl, i1, i2, i3⟩
  · rintro ⟨x, y, h'⟩ n ⟨e1, v, m, left, e2, e3, e4, e5⟩
    dsimp only at e1 e2 e3 e4
    subst e1 e2
    show Q (fS_pick_L41 (n + 1) (nI left) (nI 5) h')
    rw [fS_pick_L41, if_pos (show (5 : Int32) ≤ nI 5 by decide)]
    exact hK h' e3.1 e3.2.1 e3.2.2.1 (fun i hi => e3.2.2.2.2.1 i (tkp5 w hi) hi)
  · show h1 17 q = _ ∧ _
    rw [f2 17 (by decide) (by decide)]
    exact sg.2.1 q hq
  · show h1 22 (45 * g + y) = 0
    rw [f2 22 (by decide) (by decide)]
    exact (sg.1 g (tkp5 w (lead_iff.mp lg).1) lg).2.2.2 y hy
  · show h1 20 g = _
    have g5 := tkp5 w (lead_iff.mp lg).1
    rw [(f3 g g5).2, (sg.1 g g5 lg).2.1]
    unfold Wy
    rw [W_SI (Lg := Lm σ gr) w G lg]
    rfl
  · show 0 < PP σ
    omega
  · show h1 16 q = _
    rw [(f3 q hq).1, (sg.2.1 q hq).1]
    rfl
  · show n0 < PP σ ^ tn (tkp σ) 5 0
    rw [tn_mm]
    exact hn
  · rw [hk, cntP_sum]
    refine sumN_congr (fun n hn' => ?_)
    exact (fa n (by omega)).symm
/-- the class shows a piece's spot in laying k -/
theorem spotIn_eq {k p : Nat} (w : WF σ) (sf : SF σ h) (hk : ∀ c, h 3 4 = nI c → c ≤ 59049 → k < c) (hk2 : k < 100000) (tp : tkp σ p = true) : ∃ h' gr n, fS_spotIn h (nI k) (nI p) = some (nI (nth σ n p), h') ∧ FrC h h' ∧ h' 3 2 = h 3 2 ∧ SF σ h' ∧ GRP σ gr ∧ (∀ g, lead σ gr g = true → Lst σ gr g (Lm σ gr g)) ∧ n < tot σ ∧ gd σ (Lsum σ gr (Lm σ gr)) n = true ∧ k = cntP (gd σ (Lsum σ gr (Lm σ gr))) n := by
  have p5 := tkp5 w tp
  have sf0 := sf
  obtain ⟨a1, b, a2, a3, a4, a5⟩ := sf
  rcases a5 with ⟨c1, c2, c3⟩ | ⟨c1, gr, G, gh, h13, sg, pk⟩
  · have := hk 0 c2 (by omega)
    omega
  · have hL := SG_L w sg
    have tl := tot_le w
    have cl := cntP_le (gd σ (Lsum σ gr (Lm σ gr))) (tot σ)
    have kc : k < cntP (gd σ (Lsum σ gr (Lm σ gr))) (tot σ) := hk _ (by rw [sg.2.2.2.2, SG_cnt w G sg]) (by omega)
    obtain ⟨n0, n1, n2, n3⟩ := cntP_ex kc
    unfold fS_spotIn
    rw [jn_eq]
    by_cases z : h 3 8 = nI k
    · rw [if_pos z]
      dsimp only
      rw [rd_at p 5 rfl rfl p5]
      rcases pk with q | ⟨n, q1, q2, q3, q4⟩
      · rw [q] at z
        have := nI_pos' (n := k) (by omega)
        rw [← z] at this
        exact absurd this (by decide)
      · have cm := cntP_mono (gd σ (Lsum σ gr (Lm σ gr))) (Nat.le_of_lt q1)
        have e : cntP (gd σ (Lsum σ gr (Lm σ gr))) n = k := by
          rw [q3] at z
          exact (nI_eq (by omega) (by omega)).mp z
        exact ⟨h, gr, n, by rw [q4 p tp]; rfl, fun _ _ _ => rfl, rfl, sf0, G, hL, q1, q2, e.symm⟩
    · rw [if_neg z]
      refine pick_K (Q := fun o => ∃ h' gr n, cal o (fun _ h10 => pt h10 3 8 (nI k) (fun h15 => (fun h18 => rd h18 21 (nI p) (fun r23 => ret1 r23 h18)) h15)) = some (nI (nth σ n p), h') ∧ FrC h h' ∧ h' 3 2 = h 3 2 ∧ SF σ h' ∧ GRP σ gr ∧ (∀ g, lead σ gr g = true → Lst σ gr g (Lm σ gr g)) ∧ n < tot σ ∧ gd σ (Lsum σ gr (Lm σ gr)) n = true ∧ k = cntP (gd σ (Lsum σ gr (Lm σ gr))) n) w G gh a1 h13 sg n1 n2 n3.symm (fun h1 f1 f2 f3 f4 => ?_)
      refine ⟨up h1 3 8 (nI k), gr, n0, ?_, fun k k1 k2 => ?_, ?_, ?_, G, hL, n1, n2, n3.symm⟩
      · rw [cal_some, pt_eq]
        dsimp only
        rw [rd_at p 5 rfl rfl p5, up_ne h1 (show 21 ≠ 3 by decide), f4 p tp]
        rfl
      · rw [up_ne h1 k1]
        exact f1 k (by omega) (by omega) (by omega) (by omega) (by omega)
      · rw [up_k, upd_ne (by decide), f1 3 (by decide) (by decide) (by decide) (by decide) (by decide)]
      · have k3 : ∀ j, j ≠ 8 → up h1 3 8 (nI k) 3 j = h 3 j := fun j hj => by rw [up_k, upd_ne hj, f1 3 (by decide) (by decide) (by decide) (by decide) (by decide)]
        have kk : ∀ k', k' ≠ 3 → k' ≠ 16 → k' ≠ 17 → k' ≠ 20 → k' ≠ 21 → k' ≠ 22 → up h1 3 8 (nI k) k' = h k' := fun k' d0 d1 d2 d3 d4 d5 => (up_ne h1 d0 _ _).trans (f1 k' d1 d2 d3 d4 d5)
        have bs' : BS b (up h1 3 8 (nI k)) := fun q hq => by rw [up_ne h1 (by decide)]; exact f2 q hq
        refine ⟨by rw [k3 3 (by decide)]; exact a1, b, bs', a3, fun c hc => by rw [kk 12 (by decide) (by decide) (by decide) (by decide) (by decide) (by decide)]; exact a4 c hc, Or.inr ⟨c1, gr, G, gh.keep (kk 14 (by decide) (by decide) (by decide) (by decide) (by decide) (by decide)) (kk 15 (by decide) (by decide) (by decide) (by decide) (by decide) (by decide)) (kk 26 (by decide) (by decide) (by decide) (by decide) (by decide) (by decide)), fun q hq => by rw [kk 13 (by decide) (by decide) (by decide) (by decide) (by decide) (by decide)]; exact h13 q hq, ⟨fun g g5 lg => ?_, bs', sg.2.2.1, by rw [k3 5 (by decide)]; exact sg.2.2.2.1, by rw [k3 4 (by decide)]; exact sg.2.2.2.2⟩, Or.inr ⟨n0, n1, n2, by rw [up_k, upd_same, n3], fun i hi => by rw [up_ne h1 (by decide)]; exact f4 i hi⟩⟩⟩
        rw [kk 18 (by decide) (by decide) (by decide) (by decide) (by decide) (by decide), kk 19 (by decide) (by decide) (by decide) (by decide) (by decide) (by decide)]
        obtain ⟨i1, i2, i3, i4⟩ := sg.1 g g5 lg
        exact ⟨i1, i2, i3, fun y hy => by rw [up_ne h1 (by decide)]; exact f3 g lg y hy⟩
theorem mlaying45 {K : Int32 → Hp → RO} {p : Nat} (w : WF σ) (pa : PA σ h) (tp : tkp σ p = true) : fM_laying_L45 K (nI p) FU 0 h = K (nI (rk σ p)) h := by
  have p5 := tkp5 w tp
  have rl := rk_lt w tp
  have ml := mm_le (σ := σ)
  refine loopS (fun n (x : Int32 × Hp) => fM_laying_L45 K (nI p) n x.1 x.2) (fun t => (nI t, h)) _ (rk σ p) (by omega) ?_ ?_ 0 (by omega)
  · intro t n ht
    show fM_laying_L45 K (nI p) (n + 1) (nI t) h = fM_laying_L45 K (nI p) n (nI (t + 1)) h
    obtain ⟨t1, t2⟩ := ti_lt w (a := t) (by omega)
    have e := pa.2 _ t1
    rw [t2] at e
    have l5 := tkp5 w t1
    rw [fM_laying_L45, rd_at t 5 rfl rfl (by omega), e, if_neg (fun z => by
      have := (nI_eq (by omega) (by omega)).mp z
      rw [this] at t2
      omega), n_s1]
  · intro n
    show fM_laying_L45 K (nI p) (n + 1) (nI (rk σ p)) h = _
    rw [fM_laying_L45, rd_at (rk σ p) 5 rfl rfl (by omega), pa.2 p tp, if_pos rfl]
theorem ag_laying (x y : Int32) : Agr (InvX SF) (fun h => fX_laying h x y) (fun h => fM_laying h x y) := by
  rintro h ⟨σ, w, ms, cs, kp, ho, hx⟩
  have st : ST σ h := ⟨w, ms, cs, kp, ho⟩
  have inv : InvX SF h := st.inv hx
  have hnp := w.1.2.2.2.2.2.1
  dsimp only
  cases hc : wn y 0 (nI (σ 0 2) - 1) with
  | false => exact ⟨-1, h, h, by unfold fX_laying; rw [hasPiece_eq cs, cal_some, if_b0, hc]; rfl, by unfold fM_laying; rw [mpiece_eq ms, cal_some, if_b0, hc]; rfl, inv⟩
  | true =>
    have hc0 := hc
    obtain ⟨p, hp, rfl⟩ := (wn_cnt (by omega)).mp hc
    cases ht : tk σ p with
    | false => exact ⟨-5, h, h, by unfold fX_laying; rw [hasPiece_eq cs, cal_some, if_b0, hc0, cond_true, takesPart_eq w cs hp, cal_some, if_b0, ht]; rfl, by unfold fM_laying; rw [mpiece_eq ms, cal_some, if_b0, hc0, cond_true, mtakes_eq w ms hp, cal_some, if_b0, ht]; rfl, inv⟩
    | true =>
      have tp : tkp σ p = true := by rw [tkp_of hp]; exact ht
      obtain ⟨h1, s1, s2, s3, sf, st1⟩ := both st hx 0
      have X : fX_laying h x (nI p) = if bI (wn x 0 (h1 3 4 - 1)) = 0 then ret1 (-4) h1 else cal (fS_spotIn h1 x (nI p)) (fun r57 h57 => ret1 r57 h57) := by
        unfold fX_laying
        rw [hasPiece_eq cs, cal_some, if_b0, hc0, cond_true, takesPart_eq w cs hp, cal_some, if_b0, ht, cond_true, s1, cal_some, isWithin_eq, cal_some]
      have M : ∀ hX : Hp, ST σ hX → hX 3 2 = 0 → SF σ hX → ∃ h2 L, FS σ hX h2 ∧ FN σ x h2 (tot σ) L ∧ InvX SF h2 ∧ fM_laying hX x (nI p) = if bI (wn x 0 (hX 3 4 - 1)) = 0 then ret1 (-4) h2 else ret1 (h2 53 (rk σ p)) h2 := fun hX stX h32 sfX => by
        obtain ⟨h2, L, m1, m2, fn, st2, m3, sf2⟩ := both2 stX h32 sfX x
        obtain ⟨e1, -, -⟩ := SF_FN w sfX fn
        refine ⟨h2, L, m2, fn, st2.inv (Or.inr ⟨m3, sf2⟩), ?_⟩
        have rl := rk_lt w tp
        have ml := mm_le (σ := σ)
        unfold fM_laying
        rw [mpiece_eq stX.2.1, cal_some, if_b0, hc0, cond_true, mtakes_eq w stX.2.1 hp, cal_some, if_b0, ht, cond_true, m1, cal_some, in_eq, cal_some, ← e1, mlaying45 w m2.2.1 tp, rd_at (rk σ p) 5 rfl rfl (by omega)]
      cases hk : wn x 0 (h1 3 4 - 1) with
      | false =>
        rw [hk, if_b0, cond_false] at X
        obtain ⟨h2, L, -, -, iv, e⟩ := M h1 st1 s3 sf
        rw [hk, if_b0, cond_false] at e
        exact ⟨-4, h1, h2, X, e, iv⟩
      | true =>
        have cn : ∃ c, h1 3 4 = nI c ∧ c ≤ 59049 := by
          obtain ⟨h2, L, m1, m2, fn, -, -, -⟩ := both2 st1 s3 sf 0
          obtain ⟨e1, -, -⟩ := SF_FN w sf fn
          have tl := tot_le w
          exact ⟨_, e1.trans fn.2.2.2.1, Nat.le_trans (cntP_le _ _) tl.2⟩
        obtain ⟨c, c1, c2⟩ := cn
        have hk0 := hk
        rw [c1] at hk
        obtain ⟨k, k1, rfl⟩ := (wn_cnt (by omega)).mp hk
        obtain ⟨h3, gr, n, r1, r2, r3, sf3, G, hL, n1, n2, n3⟩ := spotIn_eq (k := k) w sf (fun c' e' l' => by
          rw [c1] at e'
          have := (nI_eq (by omega) (by omega)).mp e'
          omega) (by omega) tp
        rw [hk0, if_b0, cond_true, r1, cal_some] at X
        obtain ⟨h2, L, -, fn, iv, e⟩ := M h3 (st1.fr (FrA.ofC r2)) (r3.trans s3) sf3
        -- both counts are the same
        have c4 : h3 3 4 = h1 3 4 := by
          obtain ⟨h5, L5, -, -, fn5, -, -, -⟩ := both2 st1 s3 sf (nI k)
          rw [(SF_FN w sf3 fn).1, (SF_FN w sf fn5).1, fn.2.2.2.1, fn5.2.2.2.1, least_is w G hL fn, least_is w G hL fn5]
        rw [c4, hk0, if_b0, cond_true] at e
        have eL := least_is w G hL fn
        subst eL
        have := fn.2.2.2.2.2 n n1 n2 (by rw [n3]) p tp
        rw [this] at e
        exact ⟨nI (nth σ n p), h3, h2, X, e, iv⟩
end Laying
