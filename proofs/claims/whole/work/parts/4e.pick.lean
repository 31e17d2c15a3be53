/-! THE CLASS PICKS A LAYING -/
section Pick
variable {σ : Sg} {gr : Nat → Nat} {h : Hp}
theorem others_eq {p g0 : Nat} {v : Nat → Nat} (w : WF σ) (G : GRP σ gr) (hp : p ≤ 5) (hg : g0 < 5) (h13 : ∀ q, q < 5 → h 13 q = bI (tkp σ q)) (h14 : ∀ q, q < 5 → h 14 q = nI (gr q)) (h20 : ∀ g, lead σ gr g = true → h 20 g = nI (Tg σ gr p v g)) : fS_waysOfOthers h (nI g0) = some (nI (Ot σ gr p v g0), h) := by
  unfold fS_waysOfOthers
  refine loopS (fun n (x : Int32 × Int32 × Hp) => fS_waysOfOthers_L4 (nI g0) n x.1 x.2.1 x.2.2) (fun t => (nI (prN (fun g => if g = g0 then 1 else Tg σ gr p v g) t), nI t, h)) _ 5 (by omega) ?_ ?_ 0 (by omega)
  · intro t n ht
    show fS_waysOfOthers_L4 (nI g0) (n + 1) (nI (prN (fun g => if g = g0 then 1 else Tg σ gr p v g) t)) (nI t) h = fS_waysOfOthers_L4 (nI g0) n (nI (prN (fun g => if g = g0 then 1 else Tg σ gr p v g) t * (if t = g0 then 1 else Tg σ gr p v t))) (nI (t + 1)) h
    rw [fS_waysOfOthers_L4, if_neg (fun z => by have := (n_le (X := 5) (a := 5) rfl rfl (by omega) (by omega)).mp z; omega), leadsGroup_eq G ht (h13 t ht) (h14 t ht), cal_some, jn_eq, if_b0, n_s1]
    cases hl : lead σ gr t with
    | false =>
      rw [cond_false]
      by_cases e : t = g0
      · rw [if_pos e, Nat.mul_one]
      · rw [if_neg e, Tg_non w G hp hl, Nat.mul_one]
    | true =>
      rw [cond_true]
      by_cases e : t = g0
      · rw [if_pos (by rw [e]), if_pos e, Nat.mul_one]
      · rw [if_neg (fun z => e ((nI_eq (by omega) (by omega)).mp z)), if_neg e, rd_at t 5 rfl rfl ht, bnd_eq, h20 t hl, n_mul]
  · intro n
    show fS_waysOfOthers_L4 (nI g0) (n + 1) (nI (prN (fun g => if g = g0 then 1 else Tg σ gr p v g) 5)) (nI 5) h = _
    rw [fS_waysOfOthers_L4, if_pos (show (5 : Int32) ≤ nI 5 by decide)]
    rfl
theorem prN_le1 {f : Nat → Nat} : ∀ {n}, (∀ i, i < n → f i ≤ 1) → prN f n ≤ 1
  | 0, _ => Nat.le_refl _
  | n + 1, hf => by
    have a := prN_le1 (f := f) (n := n) (fun i hi => hf i (by omega))
    have b := hf n (by omega)
    have : prN f n * f n ≤ 1 * 1 := Nat.mul_le_mul a b
    exact this
theorem Fa_le {u : Nat → Nat} : Fa σ gr u ≤ 1 := prN_le1 (fun _ _ => ind_le)
theorem sumN_mono (f : Nat → Nat) {a b : Nat} (hab : a ≤ b) : sumN f a ≤ sumN f b := by
  rw [show b = a + (b - a) by omega, sumN_app]
  omega
theorem bst_bit {b : Nat → Nat} (w : WF σ) (G : GRP σ gr) (bb : ∀ q t, (b q).testBit t = true ↔ (gr q < 5 ∧ tkp σ q = true ∧ ∃ u, WQ σ gr (gr q) (opM σ) (Lm σ gr (gr q)) (gr q) v0 u ∧ u q = t)) {g q : Nat} {u : Nat → Nat} (bu : bst σ gr (Lm σ gr) g u) (hq : inG σ gr g q = true) : (b q).testBit (u q) = true := by
  obtain ⟨tq, gq⟩ := inG_iff.mp hq
  have g5 := tkp5 w (lead_iff.mp (lead_of w G hq)).1
  refine (bb q (u q)).mpr ⟨by omega, tq, rs σ gr g u, ?_, rs_in hq⟩
  rw [gq]
  exact bst_WQ w G g5 bu
/-- no best way has this spot -/
theorem Tg_zero {b v : Nat → Nat} {p s : Nat} (w : WF σ) (G : GRP σ gr) (bb : ∀ q t, (b q).testBit t = true ↔ (gr q < 5 ∧ tkp σ q = true ∧ ∃ u, WQ σ gr (gr q) (opM σ) (Lm σ gr (gr q)) (gr q) v0 u ∧ u q = t)) (tp : tkp σ p = true) (hv : ∀ j, tkp σ j = true → v j < PP σ) (hs : s < PP σ) (hn : (b p).testBit s = false) : Tg σ gr (p + 1) (sv v p s) (gr p) = 0 := by
  apply Classical.byContradiction
  intro z
  obtain ⟨u, cu, hu⟩ := SI_pos.mp (Nat.pos_of_ne_zero z)
  have gp : inG σ gr (gr p) p = true := inG_iff.mpr ⟨tp, rfl⟩
  have hl := lead_of w G gp
  have pu : inP σ u := Cm_inP w (fun j hj => by
    by_cases e : j = p
    · rw [e, sv_s]; exact hs
    · rw [sv_n e]; exact hv j hj) cu
  have bu : bst σ gr (Lm σ gr) (gr p) u := by
    unfold ind at hu
    rw [if_pos hl] at hu
    by_cases c : (okg σ gr (gr p) u && gc σ gr (gr p) u == Lm σ gr (gr p)) = true
    · rw [Bool.and_eq_true, beq_iff_eq] at c
      exact ⟨pu, c.1, c.2⟩
    · rw [if_neg c] at hu
      omega
  have := bst_bit w G bb bu gp
  rw [Cm_ah cu (by omega), sv_s, hn] at this
  exact absurd this (by decide)
/-- what stands when the pieces ahead of p are bound -/
def PI (σ : Sg) (gr b u0 : Nat → Nat) (h0 : Hp) (p : Nat) (v : Nat → Nat) (h : Hp) : Prop := (∀ k, k ≠ 16 → k ≠ 17 → k ≠ 20 → k ≠ 21 → k ≠ 22 → h k = h0 k) ∧ BS b h ∧ (∀ g, lead σ gr g = true → ∀ y, y < 45 → h 22 (45 * g + y) = 0) ∧ (∀ g, lead σ gr g = true → h 20 g = nI (Tg σ gr p v g)) ∧ (∀ j, j < p → tkp σ j = true → h 21 j = nI (u0 j)) ∧ (∀ j, tkp σ j = true → v j < PP σ) ∧ ∀ j, j < p → tkp σ j = true → v j = u0 j
def O16 (σ : Sg) (b u0 : Nat → Nat) (p : Nat) (h : Hp) : Prop := ∀ q, q < 5 → h 16 q = nI (if decide (q < p) && tkp σ q then 2 ^ u0 q else b q)
/-- which number is left, and how many are to be skipped -/
def SK (σ : Sg) (gr u0 : Nat → Nat) (p : Nat) (v : Nat → Nat) (m left : Nat) : Prop := m < PP σ ^ tn (tkp σ) (5 - p) p ∧ asg (PP σ) (tkp σ) (5 - p) p v m = u0 ∧ left = sumN (fun m' => Fa σ gr (asg (PP σ) (tkp σ) (5 - p) p v m')) m
theorem SK_t {u0 v : Nat → Nat} {p m left : Nat} (w : WF σ) (G : GRP σ gr) (tp : tkp σ p = true) (sk : SK σ gr u0 p v m left) (f1 : Fa σ gr u0 = 1) : u0 p < PP σ ∧ ∃ m' left', SK σ gr u0 (p + 1) (sv v p (u0 p)) m' left' ∧ left = sumN (fun s => SI (PP σ) (tkp σ) (5 - (p + 1)) (p + 1) (sv v p s) (Fa σ gr)) (u0 p) + left' ∧ left' < SI (PP σ) (tkp σ) (5 - (p + 1)) (p + 1) (sv v p (u0 p)) (Fa σ gr) := by
  have p5 := tkp5 w tp
  have hP := PP_le w
  obtain ⟨h1, h2, h3⟩ := sk
  rw [show 5 - p = (5 - (p + 1)) + 1 by omega] at h1 h2 h3
  rw [tn_t tp, Nat.pow_succ] at h1
  rw [asg_t tp] at h2
  have hR : 0 < PP σ ^ tn (tkp σ) (5 - (p + 1)) (p + 1) := Nat.pow_pos (by omega)
  generalize hRe : PP σ ^ tn (tkp σ) (5 - (p + 1)) (p + 1) = R at h1 h2 hR
  have hm1 : m % R < R := Nat.mod_lt _ hR
  have cm := asg_cm (P := PP σ) (sel := tkp σ) (r := 5 - (p + 1)) (i := p + 1) (v := sv v p (m / R)) (n := m % R) (by rw [hRe]; exact hm1)
  rw [h2] at cm
  have es : u0 p = m / R := by rw [Cm_ah cm (by omega), sv_s]
  have sP : m / R < PP σ := Nat.div_lt_of_lt_mul h1
  rw [es]
  refine ⟨sP, m % R, sumN (fun m' => Fa σ gr (asg (PP σ) (tkp σ) (5 - (p + 1)) (p + 1) (sv v p (m / R)) m')) (m % R), ⟨by rw [hRe]; exact hm1, h2, rfl⟩, ?_, ?_⟩
  · rw [h3]
    have em : m = (m / R) * R + m % R := by rw [Nat.mul_comm]; exact (Nat.div_add_mod m R).symm
    have key : ∀ a c, c ≤ R → sumN (fun t => Fa σ gr (asg (PP σ) (tkp σ) (5 - (p + 1) + 1) p v (a * R + t))) c = sumN (fun t => Fa σ gr (asg (PP σ) (tkp σ) (5 - (p + 1)) (p + 1) (sv v p a) t)) c := fun a c hc => sumN_congr (fun t ht => by
      rw [asg_t tp, hRe, (dm_at (r := a) (show t < R by omega)).1, (dm_at (r := a) (show t < R by omega)).2])
    have big : ∀ s1 m1, m1 ≤ R → sumN (fun m' => Fa σ gr (asg (PP σ) (tkp σ) (5 - (p + 1) + 1) p v m')) (s1 * R + m1) = sumN (fun s => SI (PP σ) (tkp σ) (5 - (p + 1)) (p + 1) (sv v p s) (Fa σ gr)) s1 + sumN (fun m' => Fa σ gr (asg (PP σ) (tkp σ) (5 - (p + 1)) (p + 1) (sv v p s1) m')) m1 := fun s1 m1 hm => by
      rw [sumN_app, sumN_prod, key s1 m1 hm]
      congr 1
      refine sumN_congr (fun s _ => ?_)
      rw [key s R (Nat.le_refl _), SI_num, hRe]
    have := big (m / R) (m % R) (by omega)
    rw [← em] at this
    exact this
  · rw [SI_num, hRe]
    have := sumN_mono (fun m' => Fa σ gr (asg (PP σ) (tkp σ) (5 - (p + 1)) (p + 1) (sv v p (m / R)) m')) (show m % R + 1 ≤ R by omega)
    have e : sumN (fun m' => Fa σ gr (asg (PP σ) (tkp σ) (5 - (p + 1)) (p + 1) (sv v p (m / R)) m')) (m % R + 1) = sumN (fun m' => Fa σ gr (asg (PP σ) (tkp σ) (5 - (p + 1)) (p + 1) (sv v p (m / R)) m')) (m % R) + Fa σ gr (asg (PP σ) (tkp σ) (5 - (p + 1)) (p + 1) (sv v p (m / R)) (m % R)) := rfl
    rw [h2, f1] at e
    omega
theorem SK_f {u0 v : Nat → Nat} {p m left : Nat} (hp : p < 5) (tp : tkp σ p = false) (sk : SK σ gr u0 p v m left) : SK σ gr u0 (p + 1) v m left := by
  obtain ⟨h1, h2, h3⟩ := sk
  rw [show 5 - p = (5 - (p + 1)) + 1 by omega] at h1 h2 h3
  rw [tn_f tp] at h1
  rw [asg_f tp] at h2
  refine ⟨h1, h2, ?_⟩
  rw [h3]
  exact sumN_congr (fun m' _ => by rw [asg_f tp])
theorem SK_le {u0 v : Nat → Nat} {p m left : Nat} (w : WF σ) (sk : SK σ gr u0 p v m left) : left ≤ 59049 := by
  obtain ⟨h1, h2, h3⟩ := sk
  have := SI_le (P := PP σ) (sel := tkp σ) (F := Fa σ gr) (PP_le w).2 (fun _ => Fa_le) (r := 5 - p) (i := p) (v := v) (by omega)
  rw [SI_num] at this
  have := sumN_mono (fun m' => Fa σ gr (asg (PP σ) (tkp σ) (5 - p) p v m')) (Nat.le_of_lt h1)
  omega
theorem pickSpot_K {Q : RO → Prop} {b u0 v : Nat → Nat} {h0 : Hp} {p m left : Nat} (w : WF σ) (G : GRP σ gr) (gh : GH σ gr h0) (g3 : h0 3 3 = nI (PP σ)) (h13 : ∀ q, q < 5 → h0 13 q = bI (tkp σ q)) (h18 : ∀ g, lead σ gr g = true → h0 18 g = nI (Lm σ gr g)) (bf : BF σ b) (bb : ∀ q t, (b q).testBit t = true ↔ (gr q < 5 ∧ tkp σ q = true ∧ ∃ u, WQ σ gr (gr q) (opM σ) (Lm σ gr (gr q)) (gr q) v0 u ∧ u q = t)) (hL : ∀ g, lead σ gr g = true → Lst σ gr g (Lm σ gr g)) (f1 : Fa σ gr u0 = 1) (ub : ∀ j, tkp σ j = true → (b j).testBit (u0 j) = true) (tp : tkp σ p = true) (pi : PI σ gr b u0 h0 p v h) (o16 : O16 σ b u0 p h) (sk : SK σ gr u0 p v m left) (hK : ∀ h' v' m' left', PI σ gr b u0 h0 (p + 1) v' h' → O16 σ b u0 (p + 1) h' → SK σ gr u0 (p + 1) v' m' left' → Q (some (nI left', h'))) : Q (fS_pickSpot h (nI p) (nI left)) := by
  have hP := PP_le w
  have p5 := tkp5 w tp
  have gp5 : gr p < 5 := by have := (G.1 p p5).1; omega
  have gp : inG σ gr (gr p) p = true := inG_iff.mpr ⟨tp, rfl⟩
  have hl := lead_of w G gp
  obtain ⟨uP, m', left', sk', e1, e2⟩ := SK_t w G tp sk f1
  have ll := SK_le w sk
  have kk : ∀ {x : Hp} {vv : Nat → Nat}, PI σ gr b u0 h0 p vv x → x 14 = h0 14 := fun q => q.1 14 (by decide) (by decide) (by decide) (by decide) (by decide)
  unfold fS_pickSpot
  rw [rd_at p 5 rfl rfl p5, kk pi, (gh.1 p p5).1, others_eq (p := p) (v := v) w G (by omega) gp5 (fun q hq => by rw [pi.1 13 (by decide) (by decide) (by decide) (by decide) (by decide)]; exact h13 q hq) (fun q hq => by rw [kk pi]; exact (gh.1 q hq).1) pi.2.2.2.1, cal_some]
  -- one spot that is a best one
  have body : ∀ (h' : Hp) (s : Nat) (Q2 : RO → Prop), s < PP σ → (b p).testBit s = true → PI σ gr b u0 h0 p v h' → (∀ q, q < 5 → q ≠ p → h' 16 q = nI (if decide (q < p) && tkp σ q then 2 ^ u0 q else b q)) → (∀ h2, FWy σ gr (gr p) (gr p) (up h' 16 p (nI (2 ^ s))) h2 → BS b h2 → Q2 (some (nI (Tg σ gr (p + 1) (sv v p s) (gr p)), h2))) → Q2 (fS_ways 7 (nI (gr p)) (nI (Lm σ gr (gr p))) (up h' 16 p (nI (2 ^ s)))) := fun h' s Q2 hs hb i1 i2 i3 => by
    have k1 : ∀ k, k ≠ 16 → k ≠ 17 → k ≠ 20 → k ≠ 21 → k ≠ 22 → up h' 16 p (nI (2 ^ s)) k = h0 k := fun k c1 c2 c3 c4 c5 => (up_ne h' c1 _ _).trans (i1.1 k c1 c2 c3 c4 c5)
    refine found_K (h := up h' 16 p (nI (2 ^ s))) (b := b) (v := sv v p s) (g := gr p) (p := p) w G (gh.keep (k1 14 (by decide) (by decide) (by decide) (by decide) (by decide)) (k1 15 (by decide) (by decide) (by decide) (by decide) (by decide)) (k1 26 (by decide) (by decide) (by decide) (by decide) (by decide))) (by rw [k1 3 (by decide) (by decide) (by decide) (by decide) (by decide)]; exact g3) (fun q hq => by rw [up_ne h' (by decide)]; exact i1.2.1 q hq) bf bb hL (fun y hy => by rw [up_ne h' (by decide)]; exact i1.2.2.1 (gr p) hl y hy) gp (fun j hj => ?_) (fun j j1 hj => ?_) (fun q hq => ?_) i3
    · by_cases e : j = p
      · rw [e, sv_s]; exact hs
      · rw [sv_n e]; exact i1.2.2.2.2.2.1 j hj
    · by_cases e : j = p
      · rw [e, sv_s]; exact (bf p s hb).2
      · rw [sv_n e, i1.2.2.2.2.2.2 j (by omega) hj]
        exact (bf j _ (ub j hj)).2
    · rw [up_k]
      by_cases e : q = p
      · rw [e, upd_same, sv_s, tp, decide_eq_true (show p < p + 1 by omega)]
        rfl
      · rw [upd_ne e, i2 q hq e, sv_n e]
        cases tq : tkp σ q with
        | false =>
          rw [Bool.and_false, Bool.and_false]
          rfl
        | true =>
          rw [Bool.and_true, Bool.and_true]
          by_cases z : q < p
          · rw [decide_eq_true z, decide_eq_true (show q < p + 1 by omega), i1.2.2.2.2.2.2 q z tq]
          · rw [decide_eq_false z, decide_eq_false (show ¬ q < p + 1 by omega)]
            rfl
  refine loopK (fun n (x : Int32 × Int32 × Hp) => fS_pickSpot_L20 (fun x5_76 x6_76 x7_76 h76 => wr h76 20 (nI (gr p)) x7_76 (fun h83 => wr h83 21 (nI p) x6_76 (fun h91 => ret1 x5_76 h91))) (nI p) (nI (gr p)) (nI (Ot σ gr p v (gr p))) n x.1 x.2.1 x.2.2) (fun s x => x.2.1 = nI s ∧ PI σ gr b u0 h0 p v x.2.2 ∧ (∀ q, q < 5 → q ≠ p → x.2.2 16 q = nI (if decide (q < p) && tkp σ q then 2 ^ u0 q else b q)) ∧ ∃ l, x.1 = nI l ∧ l + sumN (fun s => SI (PP σ) (tkp σ) (5 - (p + 1)) (p + 1) (sv v p s) (Fa σ gr)) s = left) Q (u0 p) (by omega) ?_ ?_ 0 (nI left, 0, h) (by omega) ⟨rfl, pi, fun q hq _ => o16 q hq, left, rfl, rfl⟩
  · rintro s ⟨x, y, h'⟩ n hs ⟨c1, c2, c3, l, c4, c5⟩ hn
    dsimp only at c1 c2 c3 c4
    subst c1 c4
    show Q (fS_pickSpot_L20 _ (nI p) (nI (gr p)) (nI (Ot σ gr p v (gr p))) (n + 1) (nI l) (nI s) h')
    have Ns := NA_st (s := s) (v := v) w G p5
    have mono := sumN_mono (fun s => SI (PP σ) (tkp σ) (5 - (p + 1)) (p + 1) (sv v p s) (Fa σ gr)) (show s + 1 ≤ u0 p by omega)
    have e3 : sumN (fun s => SI (PP σ) (tkp σ) (5 - (p + 1)) (p + 1) (sv v p s) (Fa σ gr)) (s + 1) = sumN (fun s => SI (PP σ) (tkp σ) (5 - (p + 1)) (p + 1) (sv v p s) (Fa σ gr)) s + SI (PP σ) (tkp σ) (5 - (p + 1)) (p + 1) (sv v p s) (Fa σ gr) := rfl
    rw [fS_pickSpot_L20, c2.1 3 (by decide) (by decide) (by decide) (by decide) (by decide), g3, if_neg (fun z => by have := (nI_leI (by omega) (by omega)).mp z; omega), rd_at p 5 rfl rfl p5, (c2.2.1 p p5).1, isIn_eq (by have := (c2.2.1 p p5).2; omega) (by omega), cal_some, jn_eq, if_b0, n_s1]
    cases hb : (b p).testBit s with
    | false =>
      rw [cond_false]
      rw [Tg_zero w G bb tp c2.2.2.2.2.2.1 (by omega) hb, Nat.zero_mul] at Ns
      exact hn (nI l, nI (s + 1), h') ⟨rfl, c2, c3, l, rfl, by rw [e3, Ns]; omega⟩
    | true =>
      rw [cond_true, n_one_shl (by omega), wr_at p 5 rfl rfl p5, rd_at (gr p) 5 rfl rfl gp5, up_ne h' (show 18 ≠ 16 by decide), c2.1 18 (by decide) (by decide) (by decide) (by decide) (by decide), h18 _ hl]
      refine body h' s (fun o => Q (cal o _)) (by omega) hb c2 c3 (fun h2 fw bs2 => ?_)
      rw [cal_some, n_mul, ← Ns, if_pos ((nI_leI (by omega) (by omega)).mpr (by omega)), bnd_eq, nI_subL (by omega)]
      refine hn (nI (l - SI (PP σ) (tkp σ) (5 - (p + 1)) (p + 1) (sv v p s) (Fa σ gr)), nI (s + 1), h2) ⟨rfl, ⟨fun k k1 k2 k3 k4 k5 => ?_, bs2, fun g lg y hy => ?_, fun g lg => ?_, fun j j1 j2 => ?_, c2.2.2.2.2.2.1, c2.2.2.2.2.2.2⟩, fun q hq hne => ?_, l - SI (PP σ) (tkp σ) (5 - (p + 1)) (p + 1) (sv v p s) (Fa σ gr), rfl, by rw [e3]; omega⟩
      · show h2 k = _
        rw [fw.1 k k5 k2, up_ne h' k1]
        exact c2.1 k k1 k2 k3 k4 k5
      · show h2 22 (45 * g + y) = 0
        by_cases e : g = gr p
        · rw [e, fw.2.1 _ (by omega), up_ne h' (by decide), ← e]
          exact c2.2.2.1 g lg y hy
        · rw [fw.2.2 g y hy (by
            cases z : inG σ gr (gr p) g with
            | false => rfl
            | true => exact absurd ((lead_iff.mp lg).2.symm.trans (inG_iff.mp z).2) e), up_ne h' (by decide)]
          exact c2.2.2.1 g lg y hy
      · show h2 20 g = _
        rw [fw.1 20 (by decide) (by decide), up_ne h' (by decide)]
        exact c2.2.2.2.1 g lg
      · show h2 21 j = _
        rw [fw.1 21 (by decide) (by decide), up_ne h' (by decide)]
        exact c2.2.2.2.2.1 j j1 j2
      · show h2 16 q = _
        rw [fw.1 16 (by decide) (by decide), up_k, upd_ne hne]
        exact c3 q hq hne
  · rintro ⟨x, y, h'⟩ n ⟨c1, c2, c3, l, c4, c5⟩
    dsimp only at c1 c2 c3 c4
    subst c1 c4
    show Q (fS_pickSpot_L20 _ (nI p) (nI (gr p)) (nI (Ot σ gr p v (gr p))) (n + 1) (nI l) (nI (u0 p)) h')
    have Ns := NA_st (s := u0 p) (v := v) w G p5
    have NL := SI_le (P := PP σ) (sel := tkp σ) (F := Fa σ gr) hP.2 (fun _ => Fa_le) (r := 5 - (p + 1)) (i := p + 1) (v := sv v p (u0 p)) (by omega)
    have el : l = left' := by omega
    subst el
    rw [fS_pickSpot_L20, c2.1 3 (by decide) (by decide) (by decide) (by decide) (by decide), g3, if_neg (fun z => by have := (nI_leI (by omega) (by omega)).mp z; omega), rd_at p 5 rfl rfl p5, (c2.2.1 p p5).1, isIn_eq (by have := (c2.2.1 p p5).2; omega) (by omega), cal_some, jn_eq, if_b0, ub p tp, cond_true, n_one_shl (by omega), wr_at p 5 rfl rfl p5, rd_at (gr p) 5 rfl rfl gp5, up_ne h' (show 18 ≠ 16 by decide), c2.1 18 (by decide) (by decide) (by decide) (by decide) (by decide), h18 _ hl]
    refine body h' (u0 p) (fun o => Q (cal o _)) uP (ub p tp) c2 c3 (fun h2 fw bs2 => ?_)
    rw [cal_some, n_mul, ← Ns, if_neg (fun z => by have := (nI_leI (by omega) (by omega)).mp z; omega), wr_at (gr p) 5 rfl rfl gp5, wr_at p 5 rfl rfl p5]
    refine hK (up (up h2 20 (gr p) (nI (Tg σ gr (p + 1) (sv v p (u0 p)) (gr p)))) 21 p (nI (u0 p))) (sv v p (u0 p)) m' l ⟨fun k k1 k2 k3 k4 k5 => ?_, fun q hq => ?_, fun g lg y hy => ?_, fun g lg => ?_, fun j j1 j2 => ?_, fun j hj => ?_, fun j j1 j2 => ?_⟩ (fun q hq => ?_) sk'
    · rw [up_ne _ k4, up_ne _ k3, fw.1 k k5 k2, up_ne h' k1]
      exact c2.1 k k1 k2 k3 k4 k5
    · rw [up_ne _ (show 17 ≠ 21 by decide), up_ne _ (show 17 ≠ 20 by decide)]
      exact bs2 q hq
    · rw [up_ne _ (show 22 ≠ 21 by decide), up_ne _ (show 22 ≠ 20 by decide)]
      by_cases e : g = gr p
      · rw [e, fw.2.1 _ (by omega), up_ne h' (by decide), ← e]
        exact c2.2.2.1 g lg y hy
      · rw [fw.2.2 g y hy (by
          cases z : inG σ gr (gr p) g with
          | false => rfl
          | true => exact absurd ((lead_iff.mp lg).2.symm.trans (inG_iff.mp z).2) e), up_ne h' (by decide)]
        exact c2.2.2.1 g lg y hy
    · rw [up_ne _ (show 20 ≠ 21 by decide), up_k]
      by_cases e : g = gr p
      · rw [e, upd_same]
      · rw [upd_ne e, fw.1 20 (by decide) (by decide), up_ne h' (by decide), Tg_other p5 e]
        exact c2.2.2.2.1 g lg
    · rw [up_k]
      by_cases e : j = p
      · rw [e, upd_same]
      · rw [upd_ne e, up_ne _ (show 21 ≠ 20 by decide), fw.1 21 (by decide) (by decide), up_ne h' (by decide)]
        exact c2.2.2.2.2.1 j (by omega) j2
    · by_cases e : j = p
      · rw [e, sv_s]; exact uP
      · rw [sv_n e]; exact c2.2.2.2.2.2.1 j hj
    · by_cases e : j = p
      · rw [e, sv_s]
      · rw [sv_n e]; exact c2.2.2.2.2.2.2 j (by omega) j2
    · rw [up_ne _ (show 16 ≠ 21 by decide), up_ne _ (show 16 ≠ 20 by decide), fw.1 16 (by decide) (by decide), up_k]
      by_cases e : q = p
      · rw [e, upd_same, tp, decide_eq_true (show p < p + 1 by omega)]
        rfl
      · rw [upd_ne e, c3 q hq e]
        cases tq : tkp σ q with
        | false => rw [Bool.and_false, Bool.and_false]
        | true =>
          rw [Bool.and_true, Bool.and_true]
          by_cases z : q < p
          · rw [decide_eq_true z, decide_eq_true (show q < p + 1 by omega)]
          · rw [decide_eq_false z, decide_eq_false (show ¬ q < p + 1 by omega)]
end Pick
