/-! THE CLASS COUNTS A GROUP'S BEST WAYS: the descent -/
section Ways2
variable {σ : Sg} {gr : Nat → Nat} {h : Hp} {g : Nat} {o : Nat → Nat}
def FWy (σ : Sg) (gr : Nat → Nat) (g p : Nat) (h h' : Hp) : Prop := (∀ k, k ≠ 22 → k ≠ 17 → h' k = h k) ∧ (∀ x, x < 45 * (p + 1) → h' 22 x = h 22 x) ∧ ∀ q y, y < 45 → inG σ gr g q = false → h' 22 (45 * q + y) = h 22 (45 * q + y)
/-- the best spots so far -/
def BS (b : Nat → Nat) (h : Hp) : Prop := ∀ q, q < 5 → h 17 q = nI (b q) ∧ b q < 512
theorem pop_sum (a : Nat) : ∀ n, pop a n = sumN (fun i => if a.testBit i then 1 else 0) n
  | 0 => rfl
  | n + 1 => by
    show pop a n + (if a.testBit n then 1 else 0) = sumN (fun i => if a.testBit i then 1 else 0) n + (if a.testBit n then 1 else 0)
    rw [pop_sum a n]
theorem sumN_cut {f : Nat → Nat} {m n : Nat} (hm : m ≤ n) (hz : ∀ i, m ≤ i → i < n → f i = 0) : sumN f n = sumN f m := by
  rw [show n = m + (n - m) by omega, sumN_app]
  have : ∀ i, i < n - m → (fun t => f (m + t)) i = (fun _ => 0) i := fun i hi => hz (m + i) (by omega) (by omega)
  rw [sumN_congr this, sumN_zero, Nat.add_zero]
theorem swM_bit {v : Nat → Nat} {p left s : Nat} : (swM σ gr o v p left).testBit s = true ↔ s < 9 ∧ (o p).testBit s = true ∧ ld σ gr v p p s ≤ left := by
  unfold swM
  rw [msk_bit, Bool.and_eq_true, Bool.and_eq_true, decide_eq_true_eq, decide_eq_true_eq]
theorem ways_K (w : WF σ) (G : GRP σ gr) : ∀ (d p left : Nat) (v b : Nat → Nat) (h : Hp) (Q : RO → Prop), 5 - p < d → inG σ gr g p = true → LD σ gr v p h → GH σ gr h → h 3 3 = nI (PP σ) → OS σ o h → BS b h → left ≤ 1000000 → (∀ u, Cm (PP σ) (inG σ gr g) (5 - p) p v u → okt σ gr g o (5 - p) p u = true → left ≤ tc σ gr g (5 - p) p u) → (∀ h' b', FWy σ gr g p h h' → BS b' h' → (∀ q t, (b' q).testBit t = true ↔ ((b q).testBit t = true ∨ (p ≤ q ∧ q < 5 ∧ inG σ gr g q = true ∧ ∃ u, WQ σ gr g o left p v u ∧ u q = t))) → Q (some (nI (wS σ gr g o left p v), h'))) → Q (fS_ways d (nI p) (nI left) h)
  | 0, p, left, v, b, h, Q => fun z => absurd z (Nat.not_lt_zero _)
  | d + 1, p, left, v, b, h, Q => by
    intro hd hg l gh g3 os bs hl pre hK
    have hP := PP_le w
    have tp := (inG_iff.mp hg).1
    have p5 := tkp5 w tp
    obtain ⟨f1, f2, f3, f4⟩ := fol_spec (gr := gr) p5
    rw [fS_ways, spotsWithin_eq w G tp l g3 os hl, cal_some, rd_at p 5 rfl rfl p5, (gh.1 p p5).2]
    have hM : swM σ gr o v p left < 512 := msk_lt _ _
    by_cases n5 : fol gr p < 5
    · rw [if_pos ((n_lt (Y := 5) (b := 5) rfl rfl (by omega) (by omega)).mpr n5)]
      have gn : inG σ gr g (fol gr p) = true := inG_iff.mpr ⟨G.2.1 (fol gr p) p n5 p5 (f4 n5) (by omega), (f4 n5).trans (inG_iff.mp hg).2⟩
      refine loopK (fun n (x : Int32 × Int32 × Hp) => fS_ways_L42 (fS_ways d) (nI p) (nI left) (nI (swM σ gr o v p left)) (nI (fol gr p)) n x.1 x.2.1 x.2.2) (fun s x => x.1 = nI (sumN (fun s => if (o p).testBit s && decide (ld σ gr v p p s ≤ left) then wS σ gr g o (left - ld σ gr v p p s) (fol gr p) (sv v p s) else 0) s) ∧ x.2.1 = nI s ∧ FWy σ gr g p h x.2.2 ∧ ∃ b', BS b' x.2.2 ∧ ∀ q t, (b' q).testBit t = true ↔ ((b q).testBit t = true ∨ (p ≤ q ∧ q < 5 ∧ inG σ gr g q = true ∧ ∃ u, WQ σ gr g o left p v u ∧ u p < s ∧ u q = t))) Q (PP σ) (by omega) ?_ ?_ 0 (0, 0, h) (by omega) ⟨rfl, rfl, ⟨fun _ _ _ => rfl, fun _ _ => rfl, fun _ _ _ _ => rfl⟩, b, bs, fun q t => ⟨Or.inl, fun z => z.resolve_right (fun ⟨_, _, _, u, _, y, _⟩ => absurd y (Nat.not_lt_zero _))⟩⟩
      · rintro s ⟨x, y, h'⟩ n hs ⟨e1, e2, fr, b1, bs1, bb1⟩ hn
        dsimp only at e1 e2 fr bs1
        subst e1 e2
        show Q (fS_ways_L42 (fS_ways d) (nI p) (nI left) (nI (swM σ gr o v p left)) (nI (fol gr p)) (n + 1) (nI (sumN (fun s => if (o p).testBit s && decide (ld σ gr v p p s ≤ left) then wS σ gr g o (left - ld σ gr v p p s) (fol gr p) (sv v p s) else 0) s)) (nI s) h')
        rw [fS_ways_L42, fr.1 3 (by decide) (by decide), g3, if_neg (fun z => by have := (nI_leI (by omega) (by omega)).mp z; omega), isIn_eq (by omega) (by omega), cal_some, jn_eq, if_b0, n_s1]
        cases hb : (swM σ gr o v p left).testBit s with
        | false =>
          have no : ¬ ((o p).testBit s = true ∧ ld σ gr v p p s ≤ left) := fun z => by
            rw [swM_bit.mpr ⟨by omega, z.1, z.2⟩] at hb
            exact absurd hb (by decide)
          rw [cond_false]
          refine hn (nI (sumN (fun s => if (o p).testBit s && decide (ld σ gr v p p s ≤ left) then wS σ gr g o (left - ld σ gr v p p s) (fol gr p) (sv v p s) else 0) s), nI (s + 1), h') ⟨?_, rfl, fr, b1, bs1, fun q t => ?_⟩
          · show _ = nI (_ + (if (o p).testBit s && decide (ld σ gr v p p s ≤ left) then wS σ gr g o (left - ld σ gr v p p s) (fol gr p) (sv v p s) else 0))
            rw [if_neg (fun z => no (by rw [Bool.and_eq_true, decide_eq_true_eq] at z; exact z))]
            rfl
          · rw [bb1 q t]
            constructor
            · rintro (z | ⟨z1, z2, z3, u, z4, z5, z6⟩)
              · exact Or.inl z
              · exact Or.inr ⟨z1, z2, z3, u, z4, by omega, z6⟩
            · rintro (z | ⟨z1, z2, z3, u, z4, z5, z6⟩)
              · exact Or.inl z
              · refine Or.inr ⟨z1, z2, z3, u, z4, ?_, z6⟩
                have : u p ≠ s := fun y => WQ_no p5 hg no ⟨z4, y⟩
                omega
        | true =>
          obtain ⟨-, hb1, hb2⟩ := swM_bit.mp hb
          obtain ⟨-, hf⟩ := (os p p5).2.2 s hb1
          have l' : LD σ gr v p h' := l.keep fr.2.1 w
          obtain ⟨h2, r1, r2, r3, r4⟩ := lay_eq w G (gh.keep (fr.1 14 (by decide) (by decide)) (fr.1 15 (by decide) (by decide)) (fr.1 26 (by decide) (by decide))) (by rw [fr.1 3 (by decide) (by decide)]; exact g3) tp hs hf l'
          rw [cond_true, r1, cal_some, loadOf_eq w p5 (l'.keep (fun x hx => r3 x (by omega)) w) hs hf, cal_some, nI_subL hb2]
          have k14 : ∀ k, k ≠ 22 → k ≠ 17 → h2 k = h k := fun k k1 k2 => (r2 k k1).trans (fr.1 k k1 k2)
          refine ways_K w G d (fol gr p) (left - ld σ gr v p p s) (sv v p s) b1 h2 (fun o' => Q (cal o' _)) (by omega) gn r4 (gh.keep (k14 14 (by decide) (by decide)) (k14 15 (by decide) (by decide)) (k14 26 (by decide) (by decide))) (by rw [k14 3 (by decide) (by decide)]; exact g3) (fun q hq => by rw [k14 16 (by decide) (by decide)]; exact os q hq) (fun q hq => by rw [r2 17 (by decide)]; exact bs1 q hq) (by omega) (fun u cu ku => ?_) (fun h3 b3 s1 s2 s3 => ?_)
          · have up : u p = s := by rw [Cm_ah cu f1, sv_s]
            have cu2 : Cm (PP σ) (inG σ gr g) (5 - p) p v u := (Cm_st p5 hg).mpr ⟨by omega, by rw [up]; exact cu⟩
            have := pre u cu2 ((okt_st p5 hg).mpr ⟨by rw [up]; exact hb1, ku⟩)
            rw [tc_st p5 hg, inc_ld (v := v) (fun j hj => Cm_ah cu2 hj), up] at this
            omega
          · rw [cal_some, rd_at p 5 rfl rfl p5, jn_eq, (s2 p p5).1]
            have hN := wS_le (gr := gr) (g := g) (o := o) (v := sv v p s) (left := left - ld σ gr v p p s) (p := fol gr p) w
            have key : ∀ (m : Nat), m < 512 → (∀ t, m.testBit t = true ↔ (0 < wS σ gr g o (left - ld σ gr v p p s) (fol gr p) (sv v p s) ∧ t = s)) → Q (wr h3 17 (nI p) (nI (b3 p) ||| nI m) (fun h105 => bnd (nI (sumN (fun s => if (o p).testBit s && decide (ld σ gr v p p s ≤ left) then wS σ gr g o (left - ld σ gr v p p s) (fol gr p) (sv v p s) else 0) s) + nI (wS σ gr g o (left - ld σ gr v p p s) (fol gr p) (sv v p s))) (fun v111 => fS_ways_L42 (fS_ways d) (nI p) (nI left) (nI (swM σ gr o v p left)) (nI (fol gr p)) n v111 (nI (s + 1)) h105))) := fun m m1 m2 => by
              rw [wr_at p 5 rfl rfl p5, bnd_eq, nI_add, n_or]
              refine hn (nI (sumN (fun s => if (o p).testBit s && decide (ld σ gr v p p s ≤ left) then wS σ gr g o (left - ld σ gr v p p s) (fol gr p) (sv v p s) else 0) s + wS σ gr g o (left - ld σ gr v p p s) (fol gr p) (sv v p s)), nI (s + 1), up h3 17 p (nI (b3 p ||| m))) ⟨?_, rfl, ⟨fun k k1 k2 => ?_, fun x hx => ?_, fun q y hy hq => ?_⟩, sv b3 p (b3 p ||| m), fun q hq => ?_, fun q t => ?_⟩
              · show _ = nI (_ + (if (o p).testBit s && decide (ld σ gr v p p s ≤ left) then wS σ gr g o (left - ld σ gr v p p s) (fol gr p) (sv v p s) else 0))
                rw [if_pos (by rw [Bool.and_eq_true, decide_eq_true_eq]; exact ⟨hb1, hb2⟩)]
              · exact (up_ne h3 k2 _ _).trans ((s1.1 k k1 k2).trans (k14 k k1 k2))
              · show up h3 17 p (nI (b3 p ||| m)) 22 x = _
                rw [up_ne h3 (by decide), s1.2.1 x (by omega), r3 x (by omega)]
                exact fr.2.1 x hx
              · show up h3 17 p (nI (b3 p ||| m)) 22 (45 * q + y) = _
                have : q ≠ fol gr p := fun z => by rw [z, gn] at hq; exact absurd hq (by decide)
                rw [up_ne h3 (by decide), s1.2.2 q y hy hq, r3 _ (by omega)]
                exact fr.2.2 q y hy hq
              · show up h3 17 p (nI (b3 p ||| m)) 17 q = _ ∧ _
                rw [up_k]
                by_cases z : q = p
                · rw [z, upd_same, sv_s]
                  exact ⟨rfl, Nat.or_lt_two_pow (n := 9) (s2 p p5).2 m1⟩
                · rw [upd_ne z, sv_n z]
                  exact s2 q hq
              · have ws : ∀ u, WQ σ gr g o (left - ld σ gr v p p s) (fol gr p) (sv v p s) u ↔ WQ σ gr g o left p v u ∧ u p = s := fun u => WQ_st p5 hg hs hb1 hb2
                by_cases z : q = p
                · rw [z, sv_s, Nat.testBit_or, Bool.or_eq_true, s3 p t, m2 t, bb1 p t, wS_pos]
                  constructor
                  · rintro (((y | ⟨z1, z2, z3, u, z4, z5, z6⟩) | y) | ⟨⟨u, y⟩, y2⟩)
                    · exact Or.inl y
                    · exact Or.inr ⟨z1, z2, z3, u, z4, by omega, z6⟩
                    · have := y.1; omega
                    · have y3 := (ws u).mp y
                      exact Or.inr ⟨Nat.le_refl _, p5, hg, u, y3.1, by omega, by rw [y3.2, y2]⟩
                  · rintro (y | ⟨z1, z2, z3, u, z4, z5, z6⟩)
                    · exact Or.inl (Or.inl (Or.inl y))
                    · by_cases y : u p = s
                      · exact Or.inr ⟨⟨u, (ws u).mpr ⟨z4, y⟩⟩, by omega⟩
                      · exact Or.inl (Or.inl (Or.inr ⟨z1, z2, z3, u, z4, by omega, z6⟩))
                · rw [sv_n z, s3 q t, bb1 q t]
                  constructor
                  · rintro ((y | ⟨z1, z2, z3, u, z4, z5, z6⟩) | ⟨z1, z2, z3, u, z4, z6⟩)
                    · exact Or.inl y
                    · exact Or.inr ⟨z1, z2, z3, u, z4, by omega, z6⟩
                    · have y3 := (ws u).mp z4
                      exact Or.inr ⟨by omega, z2, z3, u, y3.1, by omega, z6⟩
                  · rintro (y | ⟨z1, z2, z3, u, z4, z5, z6⟩)
                    · exact Or.inl (Or.inl y)
                    · by_cases y : u p = s
                      · refine Or.inr ⟨?_, z2, z3, u, (ws u).mpr ⟨z4, y⟩, z6⟩
                        exact Classical.byContradiction fun z0 => f3 q (by omega) (by omega) ((inG_iff.mp z3).2.trans (inG_iff.mp hg).2.symm)
                      · exact Or.inl (Or.inr ⟨z1, z2, z3, u, z4, by omega, z6⟩)
            by_cases q : wS σ gr g o (left - ld σ gr v p p s) (fol gr p) (sv v p s) = 0
            · rw [if_pos (show nI (wS σ gr g o (left - ld σ gr v p p s) (fol gr p) (sv v p s)) ≤ 0 by rw [q]; decide)]
              exact key 0 (by decide) (fun t => by rw [Nat.zero_testBit]; exact ⟨fun z => absurd z (by decide), fun z => by omega⟩)
            · rw [if_neg (fun z => by have := (n_le (Y := 0) (b := 0) rfl rfl (by omega) (by omega)).mp z; omega), n_one_shl (by omega)]
              exact key (2 ^ s) (show 2 ^ s < 2 ^ 9 from Nat.pow_lt_pow_right (by decide) (by omega)) (fun t => by rw [Nat.testBit_two_pow, decide_eq_true_eq]; exact ⟨fun z => ⟨by omega, z.symm⟩, fun z => z.2.symm⟩)
      · rintro ⟨x, y, h'⟩ n ⟨e1, e2, fr, b1, bs1, bb1⟩
        dsimp only at e1 e2 fr bs1
        subst e1 e2
        show Q (fS_ways_L42 (fS_ways d) (nI p) (nI left) (nI (swM σ gr o v p left)) (nI (fol gr p)) (n + 1) (nI (sumN (fun s => if (o p).testBit s && decide (ld σ gr v p p s ≤ left) then wS σ gr g o (left - ld σ gr v p p s) (fol gr p) (sv v p s) else 0) (PP σ))) (nI (PP σ)) h')
        rw [fS_ways_L42, fr.1 3 (by decide) (by decide), g3, if_pos (Int32.le_refl _), ← wS_st p5 hg]
        refine hK h' b1 fr bs1 (fun q t => ?_)
        rw [bb1 q t]
        constructor
        · rintro (z | ⟨z1, z2, z3, u, z4, z5, z6⟩)
          · exact Or.inl z
          · exact Or.inr ⟨z1, z2, z3, u, z4, z6⟩
        · rintro (z | ⟨z1, z2, z3, u, z4, z6⟩)
          · exact Or.inl z
          · exact Or.inr ⟨z1, z2, z3, u, z4, ((Cm_st p5 hg).mp z4.1).1, z6⟩
    · have n5' : fol gr p = 5 := by omega
      rw [if_neg (fun z => n5 ((n_lt (Y := 5) (b := 5) rfl rfl (by omega) (by omega)).mp z)), rd_at p 5 rfl rfl p5, (bs p p5).1, wr_at p 5 rfl rfl p5, n_or, bitCount_eq hM, cal_some]
      -- the last one: what it quarrels is what is left
      have eqv : ∀ s, s < PP σ → (o p).testBit s = true → ld σ gr v p p s ≤ left → ld σ gr v p p s = left := fun s hs hb hle => by
        have cu : Cm (PP σ) (inG σ gr g) (5 - p) p v (sv v p s) := (Cm_st p5 hg).mpr ⟨by rw [sv_s]; exact hs, by rw [sv_s, n5']; exact Cm_0.mpr rfl⟩
        have := pre _ cu ((okt_st p5 hg).mpr ⟨by rw [sv_s]; exact hb, by rw [n5']; rfl⟩)
        rw [tc_st p5 hg, inc_ld (v := v) (fun j hj => Cm_ah cu hj), sv_s, n5'] at this
        have z : tc σ gr g (5 - 5) 5 (sv v p s) = 0 := rfl
        omega
      have e : wS σ gr g o left p v = pop (swM σ gr o v p left) 9 := by
        rw [wS_st p5 hg, pop_sum, sumN_cut (m := PP σ) hP.2 (fun i h1 h2 => ?_)]
        · refine sumN_congr (fun s hs => ?_)
          by_cases q : (swM σ gr o v p left).testBit s = true
          · rw [if_pos q]
            obtain ⟨-, q1, q2⟩ := swM_bit.mp q
            rw [if_pos (by rw [Bool.and_eq_true, decide_eq_true_eq]; exact ⟨q1, q2⟩), eqv s hs q1 q2, Nat.sub_self, n5']
            rfl
          · rw [if_neg q, if_neg (fun z => q (swM_bit.mpr (by rw [Bool.and_eq_true, decide_eq_true_eq] at z; exact ⟨by omega, z.1, z.2⟩)))]
        · rw [if_neg (fun z => by have := ((os p p5).2.2 i (swM_bit.mp z).2.1).1; omega)]
      rw [← e]
      refine hK (up h 17 p (nI (b p ||| swM σ gr o v p left))) (sv b p (b p ||| swM σ gr o v p left)) ⟨fun k k1 k2 => up_ne h k2 _ _, fun x _ => by rw [up_ne h (by decide)], fun q y _ _ => by rw [up_ne h (by decide)]⟩ (fun q hq => ?_) (fun q t => ?_)
      · rw [up_k]
        by_cases z : q = p
        · rw [z, upd_same, sv_s]
          exact ⟨rfl, Nat.or_lt_two_pow (n := 9) (bs p p5).2 hM⟩
        · rw [upd_ne z, sv_n z]
          exact bs q hq
      · by_cases z : q = p
        · rw [z, sv_s, Nat.testBit_or, Bool.or_eq_true, swM_bit]
          constructor
          · rintro (y | ⟨y1, y2, y3⟩)
            · exact Or.inl y
            · have ht := ((os p p5).2.2 t y2).1
              have cu : Cm (PP σ) (inG σ gr g) (5 - p) p v (sv v p t) := (Cm_st p5 hg).mpr ⟨by rw [sv_s]; exact ht, by rw [sv_s, n5']; exact Cm_0.mpr rfl⟩
              refine Or.inr ⟨Nat.le_refl _, p5, hg, sv v p t, ⟨cu, (okt_st p5 hg).mpr ⟨by rw [sv_s]; exact y2, by rw [n5']; rfl⟩, ?_⟩, sv_s _ _ _⟩
              rw [tc_st p5 hg, inc_ld (v := v) (fun j hj => Cm_ah cu hj), sv_s, n5', eqv t ht y2 y3]
              rfl
          · rintro (y | ⟨y1, y2, y3, u, ⟨a, b', c⟩, y5⟩)
            · exact Or.inl y
            · right
              have ob := ((okt_st p5 hg).mp b').1
              rw [y5] at ob
              have ht := ((os p p5).2.2 t ob).1
              rw [tc_st p5 hg, inc_ld (v := v) (fun j hj => Cm_ah a hj), y5] at c
              exact ⟨by omega, ob, by omega⟩
        · rw [sv_n z]
          constructor
          · exact Or.inl
          · rintro (y | ⟨y1, y2, y3, u, y4, y5⟩)
            · exact y
            · exact absurd ((inG_iff.mp y3).2.trans (inG_iff.mp hg).2.symm) (f3 q (by omega) (by omega))
end Ways2
