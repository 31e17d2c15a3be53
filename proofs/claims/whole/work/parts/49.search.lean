/-! THE CLASS SEARCHES ITS GROUPS -/
section Search
variable {σ : Sg} {gr : Nat → Nat} {h : Hp}
theorem leadsGroup_eq {p : Nat} (G : GRP σ gr) (hp : p < 5) (h13 : h 13 p = bI (tkp σ p)) (h14 : h 14 p = nI (gr p)) : fS_leadsGroup h (nI p) = some (bI (lead σ gr p), h) := by
  have l := (G.1 p hp).1
  unfold fS_leadsGroup lead
  rw [rdz_at p 5 rfl rfl hp, h13, if_b0]
  cases tkp σ p with
  | false => rfl
  | true =>
    rw [cond_true, rd_at p 5 rfl rfl hp, h14, Bool.true_and]
    by_cases e : gr p = p
    · rw [if_pos (by rw [e]), e, beq_self_eq_true]; rfl
    · rw [if_neg (fun z => e ((nI_eq (by omega) (by omega)).mp z)), beq_false_of_ne e]; rfl
theorem fill_K {Q : RO → Prop} {p : Nat} (hp : p < 5) (hK : ∀ h', (∀ k, k ≠ 22 → h' k = h k) → (∀ x, x < 45 * p → h' 22 x = h 22 x) → (∀ x, x < 45 → h' 22 (45 * p + x) = 0) → Q (some (0, h'))) : Q (fJ_fill4 h 22 (nI p * 45) (nI (p + 1) * 45) 0) := by
  have a1 : nI p * 45 = nI (45 * p) := by rw [show (45 : Int32) = nI 45 from rfl, n_mul, Nat.mul_comm]
  have a2 : nI (p + 1) * 45 = nI (45 * p + 45) := by rw [show (45 : Int32) = nI 45 from rfl, n_mul, Nat.add_mul, Nat.mul_comm]
  have a3 : fJ_rangeCheck h (nI 225) (nI (45 * p)) (nI (45 * p + 45)) = some (0, h) := by
    unfold fJ_rangeCheck
    rw [if_pos ((nI_leI (by omega) (by omega)).mpr (by omega)), if_pos (nI_pos' (by omega)), if_pos ((nI_leI (by omega) (by omega)).mpr (by omega))]
    rfl
  unfold fJ_fill4
  rw [a1, a2]
  have a4 : ∀ f : Int32 → RO, aln 22 f = f (nI 225) := fun _ => rfl
  rw [a4, a3, cal_some]
  refine loopK (fun n (x : Int32 × Hp) => fJ_fill4_L10 (nI (45 * p + 45)) 0 22 n x.1 x.2) (fun t x => x.1 = nI (45 * p + t) ∧ (∀ k, k ≠ 22 → x.2 k = h k) ∧ (∀ y, y < 45 * p → x.2 22 y = h 22 y) ∧ ∀ y, y < t → x.2 22 (45 * p + y) = 0) Q 45 (by omega) ?_ ?_ 0 (nI (45 * p), h) (by omega) ⟨rfl, fun _ _ => rfl, fun _ _ => rfl, fun y hy => by omega⟩
  · rintro t ⟨x, h'⟩ n ht ⟨e1, e2, e4, e3⟩ hn
    dsimp only at e1 e2 e3 e4
    subst e1
    show Q (fJ_fill4_L10 (nI (45 * p + 45)) 0 22 (n + 1) (nI (45 * p + t)) h')
    rw [fJ_fill4_L10, if_neg (fun z => by have := (nI_leI (by omega) (by omega)).mp z; omega), wr_at (45 * p + t) 225 rfl rfl (by omega), n_s1]
    refine hn (nI (45 * p + t + 1), up h' 22 (45 * p + t) 0) ⟨rfl, fun k hk => (up_ne h' hk _ _).trans (e2 k hk), fun y hy => by
      show up h' 22 (45 * p + t) 0 22 y = _
      rw [up_k, upd_ne (by omega)]
      exact e4 y hy, fun y hy => ?_⟩
    show up h' 22 (45 * p + t) 0 22 (45 * p + y) = 0
    rw [up_k]
    by_cases e : y = t
    · rw [e, upd_same]
    · rw [upd_ne (by omega)]; exact e3 y (by omega)
  · rintro ⟨x, h'⟩ n ⟨e1, e2, e4, e3⟩
    dsimp only at e1 e2 e3 e4
    subst e1
    show Q (fJ_fill4_L10 (nI (45 * p + 45)) 0 22 (n + 1) (nI (45 * p + 45)) h')
    rw [fJ_fill4_L10, if_pos (Int32.le_refl _)]
    exact hK h' e2 e4 e3
/-- how many best ways the group of leader g has -/
noncomputable def Wy (σ : Sg) (gr : Nat → Nat) (g : Nat) : Nat := wS σ gr g (opM σ) (Lm σ gr g) g v0
/-- what is found of the groups ahead of p -/
def SG (σ : Sg) (gr : Nat → Nat) (p : Nat) (b : Nat → Nat) (h : Hp) : Prop := (∀ g, g < p → lead σ gr g = true → h 18 g = nI (Lm σ gr g) ∧ h 19 g = nI (Wy σ gr g) ∧ Lst σ gr g (Lm σ gr g) ∧ ∀ y, y < 45 → h 22 (45 * g + y) = 0) ∧ BS b h ∧ (∀ q t, (b q).testBit t = true ↔ (gr q < p ∧ tkp σ q = true ∧ ∃ u, WQ σ gr (gr q) (opM σ) (Lm σ gr (gr q)) (gr q) v0 u ∧ u q = t)) ∧ h 3 5 = nI (sumN (fun g => if lead σ gr g then Lm σ gr g else 0) p) ∧ h 3 4 = nI (prN (fun g => if lead σ gr g then Wy σ gr g else 1) p)
def FG (h h' : Hp) : Prop := (∀ k, k ≠ 3 → k ≠ 17 → k ≠ 18 → k ≠ 19 → k ≠ 22 → h' k = h k) ∧ ∀ j, j ≠ 4 → j ≠ 5 → j ≠ 7 → h' 3 j = h 3 j
theorem searchGroups_K {Q : RO → Prop} (w : WF σ) (G : GRP σ gr) (gh : GH σ gr h) (op : OP σ h) (g3 : h 3 3 = nI (PP σ)) (h5 : h 3 5 = 0) (hb : ∀ q, q < 5 → h 17 q = 0) (ha : alP (allO σ) 5 = true) (hK : ∀ h' b, FG h h' → SG σ gr 5 b h' → Q (some (0, h'))) : Q (fS_searchGroups h) := by
  have hP := PP_le w
  unfold fS_searchGroups
  rw [pt_eq]
  have i0 : ∀ H : Hp, H = up h 3 4 1 → FG h H ∧ SG σ gr 0 (fun _ => 0) H := fun H eH => by
    refine ⟨⟨fun k k1 _ _ _ _ => by rw [eH]; exact up_ne h k1 _ _, fun j j1 _ _ => by rw [eH, up_k, upd_ne j1]⟩, fun g hg => by omega, fun q hq => ⟨?_, ?_⟩, fun q t => ⟨fun z => ?_, fun z => by omega⟩, ?_, ?_⟩
    · rw [eH, up_ne h (by decide)]; exact hb q hq
    · show 0 < 512
      omega
    · exact absurd z (by rw [Nat.zero_testBit]; decide)
    · rw [eH, up_k, upd_ne (by decide)]; exact h5
    · rw [eH, up_k, upd_same]; rfl
  refine loopK (fun n (x : Int32 × Hp) => fS_searchGroups_L7 n x.1 x.2) (fun p x => x.1 = nI p ∧ FG h x.2 ∧ ∃ b, SG σ gr p b x.2) Q 5 (by omega) ?_ ?_ 0 (0, up h 3 4 1) (by omega) ⟨rfl, (i0 _ rfl).1, _, (i0 _ rfl).2⟩
  · rintro p ⟨x, h'⟩ n hp ⟨e1, fr, b, s1, s2, s3, s4, s5⟩ hn
    dsimp only at e1 fr s1 s2 s4 s5
    subst e1
    show Q (fS_searchGroups_L7 (n + 1) (nI p) h')
    rw [fS_searchGroups_L7, if_neg (fun z => by have := (n_le (X := 5) (a := 5) rfl rfl (by omega) (by omega)).mp z; omega), leadsGroup_eq G hp (by rw [fr.1 13 (by decide) (by decide) (by decide) (by decide) (by decide)]; exact (op p hp).1) (by rw [fr.1 14 (by decide) (by decide) (by decide) (by decide) (by decide)]; exact (gh.1 p hp).1), cal_some, jn_eq, if_b0, n_s1]
    cases hl : lead σ gr p with
    | false =>
      rw [cond_false]
      refine hn (nI (p + 1), h') ⟨rfl, fr, b, fun g hg lg => s1 g (by
        have : g ≠ p := fun z => by rw [z, hl] at lg; exact absurd lg (by decide)
        omega) lg, s2, fun q t => ?_, ?_, ?_⟩
      · rw [s3 q t]
        constructor
        · rintro ⟨z1, z2⟩
          exact ⟨by omega, z2⟩
        · rintro ⟨z1, z2, z3⟩
          refine ⟨?_, z2, z3⟩
          have := lead_of w G (inG_iff.mpr ⟨z2, rfl⟩)
          have : gr q ≠ p := fun z => by rw [z, hl] at this; exact absurd this (by decide)
          omega
      · show h' 3 5 = nI (_ + (if lead σ gr p then Lm σ gr p else 0))
        rw [hl, if_neg (by decide)]
        exact s4
      · show h' 3 4 = nI (_ * (if lead σ gr p then Wy σ gr p else 1))
        rw [hl, if_neg (by decide), Nat.mul_one]
        exact s5
    | true =>
      rw [cond_true]
      have gp : inG σ gr p p = true := inG_iff.mpr (lead_iff.mp hl)
      have f0 : ∀ k, k ≠ 3 → k ≠ 17 → k ≠ 18 → k ≠ 19 → k ≠ 22 → h' k = h k := fr.1
      refine fill_K (Q := fun o => Q (cal o _)) hp (fun h1 t1 t3 t2 => ?_)
      rw [cal_some, pt_eq]
      have k1 : ∀ k, k ≠ 3 → k ≠ 17 → k ≠ 18 → k ≠ 19 → k ≠ 22 → up h1 3 7 1000000 k = h k := fun k a1 a2 a3 a4 a5 => by
        rw [up_ne h1 a1, t1 k a5]; exact f0 k a1 a2 a3 a4 a5
      have gh1 : GH σ gr (up h1 3 7 1000000) := gh.keep (k1 14 (by decide) (by decide) (by decide) (by decide) (by decide)) (k1 15 (by decide) (by decide) (by decide) (by decide) (by decide)) (k1 26 (by decide) (by decide) (by decide) (by decide) (by decide))
      have l0 : LD σ gr v0 p (up h1 3 7 1000000) := fun q t c1 c2 c3 c4 c5 => by
        rw [up_ne h1 (by decide), show 45 * p + 9 * q + t = 45 * p + (9 * q + t) by omega, t2 _ (by omega)]
        have : ld σ gr v0 p q t = 0 := by
          unfold ld
          have z : ∀ j, j < p → (if gr j == gr q then cl σ j (v0 j) q t else 0) = (fun _ => 0) j := fun j hj => by
            rw [if_neg]
            intro y
            have := (G.1 j (by omega)).1
            have := (lead_iff.mp hl).2
            have := beq_iff_eq.mp y
            omega
          rw [sumN_congr z, sumN_zero]
        rw [this]
        rfl
      have g31 : up h1 3 7 1000000 3 3 = nI (PP σ) := by rw [up_k, upd_ne (by decide), t1 3 (by decide), fr.2 3 (by decide) (by decide) (by decide)]; exact g3
      refine lower_K (g := p) w G 7 p 0 1000000 v0 (up h1 3 7 1000000) (fun o => Q (cal o _)) (by omega) (by omega) (fun _ => ⟨gp, l0⟩) (fun z => by omega) (by omega) (by omega) (by rw [up_k, upd_same]; rfl) gh1 g31 (fun q hq => by rw [k1 16 (by decide) (by decide) (by decide) (by decide) (by decide)]; exact (op q hq).2) (fun h2 low r1 r2 r3 r4 r5 => ?_)
      obtain ⟨u0, i0, v00⟩ := some_way w ha
      have lowlt : low < 1000000 := by
        have ok : okg σ gr p u0 = true := (okg_iff w).mpr (fun i hi => (vl_iff w).mp v00 i (inG_iff.mp hi).1)
        have pj : ∀ j, inG σ gr p j = true → u0 j < PP σ := fun j hj => i0 j (inG_iff.mp hj).1
        have e : ∀ j, inG σ gr p j = true → u0 j = rs σ gr p u0 j := fun j hj => (rs_in hj).symm
        have := r4 (rs σ gr p u0) (rs_Cm w G pj) ((okg_okt w G (fun j hj => by rw [rs_in hj]; exact pj j hj)).mp (by rw [← okg_cg e]; exact ok))
        rw [← gc_tc w G hp] at this
        have := gc_le (g := p) w G (rs σ gr p u0)
        omega
      have hL : Lst σ gr p low := Lst_of w G hp lowlt r4 r5
      have eL := Lm_eq hL
      subst eL
      rw [cal_some, wr_at p 5 rfl rfl hp, up_ne h2 (show 3 ≠ 18 by decide), r2]
      have k2 : ∀ k, k ≠ 3 → k ≠ 17 → k ≠ 18 → k ≠ 19 → k ≠ 22 → up h2 18 p (nI (Lm σ gr p)) k = h k := fun k a1 a2 a3 a4 a5 => by
        rw [up_ne h2 a3, r1.1 k a5 a1]; exact k1 k a1 a2 a3 a4 a5
      have a17 : ∀ q, h2 17 q = h' 17 q := fun q => by rw [r1.1 17 (by decide) (by decide), up_ne h1 (by decide), t1 17 (by decide)]
      have k3 : ∀ j, j ≠ 7 → h2 3 j = h' 3 j := fun j hj => by rw [r1.2.1 j hj, up_k, upd_ne hj, t1 3 (by decide)]
      have a18 : ∀ q, h2 18 q = h' 18 q := fun q => by rw [r1.1 18 (by decide) (by decide), up_ne h1 (by decide), t1 18 (by decide)]
      have a19 : ∀ q, h2 19 q = h' 19 q := fun q => by rw [r1.1 19 (by decide) (by decide), up_ne h1 (by decide), t1 19 (by decide)]
      refine ways_K (g := p) (o := opM σ) w G 7 p (Lm σ gr p) v0 b (up h2 18 p (nI (Lm σ gr p))) (fun o => Q (cal o _)) (by omega) gp ((l0.keep r1.2.2 w).keep (fun x _ => by rw [up_ne h2 (by decide)]) w) (gh.keep (k2 14 (by decide) (by decide) (by decide) (by decide) (by decide)) (k2 15 (by decide) (by decide) (by decide) (by decide) (by decide)) (k2 26 (by decide) (by decide) (by decide) (by decide) (by decide))) (by rw [up_ne h2 (by decide), k3 3 (by decide), fr.2 3 (by decide) (by decide) (by decide)]; exact g3) (fun q hq => ⟨by rw [k2 16 (by decide) (by decide) (by decide) (by decide) (by decide)]; exact (op q hq).2, opM_lt w q, fun t ht => ?_⟩) (fun q hq => by rw [up_ne h2 (by decide), a17]; exact s2 q hq) (by omega) (fun u cu ku => by have := r4 u cu ku; omega) (fun h3 b3 z1 z2 z3 => ?_)
      · by_cases tq : tkp σ q = true
        · rw [opM_bit tq, Bool.and_eq_true, decide_eq_true_eq] at ht
          exact ht
        · unfold opM at ht
          rw [if_neg tq, Nat.zero_testBit] at ht
          exact absurd ht (by decide)
      · have y3 : ∀ j, j ≠ 7 → h3 3 j = h' 3 j := fun j hj => by rw [z1.1 3 (by decide) (by decide), up_ne h2 (by decide)]; exact k3 j hj
        have y7 : h3 3 7 = nI (Lm σ gr p) := by rw [z1.1 3 (by decide) (by decide), up_ne h2 (by decide)]; exact r2
        rw [cal_some, wr_at p 5 rfl rfl hp, pt_eq, rd_at p 5 rfl rfl hp, pt_eq]
        have x1 : up h3 19 p (nI (wS σ gr p (opM σ) (Lm σ gr p) p v0)) 3 5 + up h3 19 p (nI (wS σ gr p (opM σ) (Lm σ gr p) p v0)) 3 7 = nI (sumN (fun g => if lead σ gr g then Lm σ gr g else 0) (p + 1)) := by
          show _ = nI (sumN (fun g => if lead σ gr g then Lm σ gr g else 0) p + (if lead σ gr p then Lm σ gr p else 0))
          rw [up_ne h3 (by decide), y3 5 (by decide), y7, s4, nI_add, hl, if_pos rfl]
        rw [x1]
        have x2 : up (up h3 19 p (nI (wS σ gr p (opM σ) (Lm σ gr p) p v0))) 3 5 (nI (sumN (fun g => if lead σ gr g then Lm σ gr g else 0) (p + 1))) 3 4 * up (up h3 19 p (nI (wS σ gr p (opM σ) (Lm σ gr p) p v0))) 3 5 (nI (sumN (fun g => if lead σ gr g then Lm σ gr g else 0) (p + 1))) 19 p = nI (prN (fun g => if lead σ gr g then Wy σ gr g else 1) (p + 1)) := by
          show _ = nI (prN (fun g => if lead σ gr g then Wy σ gr g else 1) p * (if lead σ gr p then Wy σ gr p else 1))
          rw [up_ne _ (show 19 ≠ 3 by decide), up_k (up h3 19 p (nI (wS σ gr p (opM σ) (Lm σ gr p) p v0))), upd_ne (by decide), up_ne h3 (show 3 ≠ 19 by decide), y3 4 (by decide), s5, up_k h3, upd_same, n_mul, hl, if_pos rfl]
          rfl
        rw [x2]
        refine hn (nI (p + 1), up (up (up h3 19 p (nI (wS σ gr p (opM σ) (Lm σ gr p) p v0))) 3 5 (nI (sumN (fun g => if lead σ gr g then Lm σ gr g else 0) (p + 1)))) 3 4 (nI (prN (fun g => if lead σ gr g then Wy σ gr g else 1) (p + 1)))) ⟨rfl, ?_⟩
        -- the heap at the end of the round
        have big : ∀ H : Hp, H = up (up (up h3 19 p (nI (wS σ gr p (opM σ) (Lm σ gr p) p v0))) 3 5 (nI (sumN (fun g => if lead σ gr g then Lm σ gr g else 0) (p + 1)))) 3 4 (nI (prN (fun g => if lead σ gr g then Wy σ gr g else 1) (p + 1))) → FG h H ∧ ∃ b, SG σ gr (p + 1) b H := fun H eH => by
          have H3 : ∀ j, j ≠ 4 → j ≠ 5 → H 3 j = h3 3 j := fun j j1 j2 => by
            rw [eH, up_k, upd_ne j1, up_k, upd_ne j2, up_ne h3 (by decide)]
          have Hk : ∀ k, k ≠ 3 → k ≠ 19 → H k = h3 k := fun k c1 c2 => by
            rw [eH, up_ne _ c1, up_ne _ c1, up_ne h3 c2]
          have H19 : H 19 = upd (h3 19) p (nI (wS σ gr p (opM σ) (Lm σ gr p) p v0)) := by
            rw [eH, up_ne _ (show 19 ≠ 3 by decide), up_ne _ (show 19 ≠ 3 by decide), up_k]
          refine ⟨⟨fun k c1 c2 c3 c4 c5 => ?_, fun j c1 c2 c3 => ?_⟩, b3, fun g hg lg => ?_, fun q hq => ?_, fun q t => ?_, ?_, ?_⟩
          · rw [Hk k c1 c4, z1.1 k c5 c2]
            exact k2 k c1 c2 c3 c4 c5
          · rw [H3 j c1 c2, y3 j c3]
            exact fr.2 j c1 c2 c3
          · rw [Hk 18 (by decide) (by decide), z1.1 18 (by decide) (by decide), up_k, H19]
            by_cases e : g = p
            · rw [e, upd_same, upd_same]
              refine ⟨rfl, rfl, hL, fun y hy => ?_⟩
              rw [Hk 22 (by decide) (by decide), z1.2.1 _ (by omega), up_ne h2 (by decide), r1.2.2 _ (by omega), up_ne h1 (by decide)]
              exact t2 y hy
            · rw [upd_ne e, upd_ne e, a18, z1.1 19 (by decide) (by decide), up_ne h2 (by decide), a19]
              obtain ⟨i1, i2, i3, i4⟩ := s1 g (by omega) lg
              refine ⟨i1, i2, i3, fun y hy => ?_⟩
              rw [Hk 22 (by decide) (by decide), z1.2.1 _ (by omega), up_ne h2 (by decide), r1.2.2 _ (by omega), up_ne h1 (by decide), t3 _ (by omega)]
              exact i4 y hy
          · rw [Hk 17 (by decide) (by decide)]
            exact z2 q hq
          · rw [z3 q t, s3 q t]
            constructor
            · rintro (⟨c1, c2, c3⟩ | ⟨c1, c2, c3, u, c4, c5⟩)
              · exact ⟨by omega, c2, c3⟩
              · obtain ⟨d1, d2⟩ := inG_iff.mp c3
                rw [d2]
                exact ⟨by omega, d1, u, c4, c5⟩
            · rintro ⟨c1, c2, u, c4, c5⟩
              by_cases e : gr q = p
              · rw [e] at c4
                have := (G.1 q (tkp5 w c2)).1
                exact Or.inr ⟨by omega, tkp5 w c2, inG_iff.mpr ⟨c2, e⟩, u, c4, c5⟩
              · exact Or.inl ⟨by omega, c2, u, c4, c5⟩
          · rw [eH, up_k, upd_ne (by decide), up_k, upd_same]
          · rw [eH, up_k, upd_same]
        exact big _ rfl
  · rintro ⟨x, h'⟩ n ⟨e1, fr, b, s⟩
    dsimp only at e1 fr s
    subst e1
    show Q (fS_searchGroups_L7 (n + 1) (nI 5) h')
    rw [fS_searchGroups_L7, if_pos (show (5 : Int32) ≤ nI 5 by decide)]
    exact hK h' b fr s
end Search
