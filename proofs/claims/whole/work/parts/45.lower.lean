/-! THE CLASS LOOKS FOR A GROUP'S LEAST QUARREL -/
section Lower
variable {σ : Sg} {gr : Nat → Nat} {h : Hp} {g : Nat}
/-- what those from i on quarrel with those ahead of them in group g -/
def tc (σ : Sg) (gr : Nat → Nat) (g : Nat) : Nat → Nat → (Nat → Nat) → Nat
  | 0, _, _ => 0
  | r + 1, i, u => (if inG σ gr g i then inc σ gr i u else 0) + tc σ gr g r (i + 1) u
def okt (σ : Sg) (gr : Nat → Nat) (g : Nat) (o : Nat → Nat) : Nat → Nat → (Nat → Nat) → Bool
  | 0, _, _ => true
  | r + 1, i, u => (!inG σ gr g i || (o i).testBit (u i)) && okt σ gr g o r (i + 1) u
theorem tc_gc (u : Nat → Nat) : ∀ r i, i + r = 5 → sumN (fun i => if inG σ gr g i then inc σ gr i u else 0) i + tc σ gr g r i u = gc σ gr g u
  | 0, i, hi => by
    have : i = 5 := by omega
    rw [this]; rfl
  | r + 1, i, hi => by
    rw [← tc_gc u r (i + 1) (by omega)]
    show _ + ((if inG σ gr g i then inc σ gr i u else 0) + tc σ gr g r (i + 1) u) = (sumN (fun i => if inG σ gr g i then inc σ gr i u else 0) i + (if inG σ gr g i then inc σ gr i u else 0)) + tc σ gr g r (i + 1) u
    omega
theorem okt_iff {o : Nat → Nat} {u : Nat → Nat} : ∀ r i, okt σ gr g o r i u = true ↔ ∀ j, i ≤ j → j < i + r → inG σ gr g j = true → (o j).testBit (u j) = true
  | 0, i => ⟨fun _ j h1 h2 => by omega, fun _ => rfl⟩
  | r + 1, i => by
    show ((!inG σ gr g i || (o i).testBit (u i)) && okt σ gr g o r (i + 1) u) = true ↔ _
    rw [Bool.and_eq_true, okt_iff r (i + 1)]
    constructor
    · rintro ⟨a, b⟩ j h1 h2 h3
      by_cases e : j = i
      · rw [e] at h3 ⊢
        rw [h3] at a
        exact a
      · exact b j (by omega) (by omega) h3
    · intro a
      refine ⟨?_, fun j h1 h2 h3 => a j (by omega) (by omega) h3⟩
      cases q : inG σ gr g i with
      | false => rfl
      | true => exact a i (Nat.le_refl _) (by omega) q
theorem SI_skip {P : Nat} {sel : Nat → Bool} {v : Nat → Nat} {F : (Nat → Nat) → Nat} : ∀ m a r, (∀ j, a ≤ j → j < a + m → sel j = false) → SI P sel (m + r) a v F = SI P sel r (a + m) v F
  | 0, a, r, _ => by rw [Nat.zero_add, Nat.add_zero]
  | m + 1, a, r, hm => by
    rw [show m + 1 + r = (m + r) + 1 by omega, SI_f (hm a (Nat.le_refl _) (by omega)), SI_skip m (a + 1) r (fun j h1 h2 => hm j (by omega) (by omega)), show a + 1 + m = a + (m + 1) by omega]
theorem tc_skip {u : Nat → Nat} : ∀ m a r, (∀ j, a ≤ j → j < a + m → inG σ gr g j = false) → tc σ gr g (m + r) a u = tc σ gr g r (a + m) u
  | 0, a, r, _ => by rw [Nat.zero_add, Nat.add_zero]
  | m + 1, a, r, hm => by
    rw [show m + 1 + r = (m + r) + 1 by omega]
    show (if inG σ gr g a then inc σ gr a u else 0) + tc σ gr g (m + r) (a + 1) u = _
    rw [hm a (Nat.le_refl _) (by omega), if_neg (by decide), Nat.zero_add, tc_skip m (a + 1) r (fun j h1 h2 => hm j (by omega) (by omega)), show a + 1 + m = a + (m + 1) by omega]
theorem fol_no {p : Nat} (hp : p < 5) (hg : inG σ gr g p = true) : ∀ j, p + 1 ≤ j → j < p + 1 + (fol gr p - (p + 1)) → inG σ gr g j = false := fun j h1 h2 => by
  obtain ⟨f1, f2, f3, -⟩ := fol_spec (gr := gr) hp
  cases q : inG σ gr g j with
  | false => rfl
  | true => exact absurd ((inG_iff.mp q).2.trans (inG_iff.mp hg).2.symm) (f3 j (by omega) (by omega))
theorem SI_st {P p : Nat} {v : Nat → Nat} {F : (Nat → Nat) → Nat} (hp : p < 5) (hg : inG σ gr g p = true) : SI P (inG σ gr g) (5 - p) p v F = sumN (fun s => SI P (inG σ gr g) (5 - fol gr p) (fol gr p) (sv v p s) F) P := by
  obtain ⟨f1, f2, -, -⟩ := fol_spec (gr := gr) hp
  rw [show 5 - p = ((fol gr p - (p + 1)) + (5 - fol gr p)) + 1 by omega, SI_t hg]
  refine sumN_congr (fun s _ => ?_)
  rw [SI_skip _ _ _ (fol_no hp hg), show p + 1 + (fol gr p - (p + 1)) = fol gr p by omega]
theorem tc_st {p : Nat} {u : Nat → Nat} (hp : p < 5) (hg : inG σ gr g p = true) : tc σ gr g (5 - p) p u = inc σ gr p u + tc σ gr g (5 - fol gr p) (fol gr p) u := by
  obtain ⟨f1, f2, -, -⟩ := fol_spec (gr := gr) hp
  rw [show 5 - p = ((fol gr p - (p + 1)) + (5 - fol gr p)) + 1 by omega]
  show (if inG σ gr g p then inc σ gr p u else 0) + tc σ gr g ((fol gr p - (p + 1)) + (5 - fol gr p)) (p + 1) u = _
  rw [if_pos hg, tc_skip _ _ _ (fol_no hp hg), show p + 1 + (fol gr p - (p + 1)) = fol gr p by omega]
theorem okt_st {p : Nat} {o u : Nat → Nat} (hp : p < 5) (hg : inG σ gr g p = true) : okt σ gr g o (5 - p) p u = true ↔ (o p).testBit (u p) = true ∧ okt σ gr g o (5 - fol gr p) (fol gr p) u = true := by
  obtain ⟨f1, f2, f3, -⟩ := fol_spec (gr := gr) hp
  rw [okt_iff, okt_iff]
  constructor
  · intro a
    exact ⟨a p (Nat.le_refl _) (by omega) hg, fun j h1 h2 h3 => a j (by omega) (by omega) h3⟩
  · rintro ⟨a, b⟩ j h1 h2 h3
    by_cases e : j = p
    · rw [e]; exact a
    · exact b j (Classical.byContradiction fun z => f3 j (by omega) (by omega) ((inG_iff.mp h3).2.trans (inG_iff.mp hg).2.symm)) (by omega) h3
theorem Cm_st {P p : Nat} {v u : Nat → Nat} (hp : p < 5) (hg : inG σ gr g p = true) : Cm P (inG σ gr g) (5 - p) p v u ↔ u p < P ∧ Cm P (inG σ gr g) (5 - fol gr p) (fol gr p) (sv v p (u p)) u := by
  obtain ⟨f1, f2, f3, -⟩ := fol_spec (gr := gr) hp
  have f : ∀ j, p ≤ j → inG σ gr g j = true → j = p ∨ fol gr p ≤ j := fun j h1 h3 => by
    by_cases e : j = p
    · exact Or.inl e
    · exact Or.inr (Classical.byContradiction fun z => f3 j (by omega) (by omega) ((inG_iff.mp h3).2.trans (inG_iff.mp hg).2.symm))
  constructor
  · rintro ⟨a, b⟩
    refine ⟨b p (Nat.le_refl _) (by omega) hg, fun j => ?_, fun j h1 h2 h3 => b j (by omega) (by omega) h3⟩
    by_cases e : j = p
    · right; rw [e, sv_s]
    · rw [sv_n e]
      rcases a j with ⟨z1, z2, z3⟩ | z
      · rcases f j z1 z3 with y | y
        · exact absurd y e
        · exact Or.inl ⟨y, by omega, z3⟩
      · exact Or.inr z
  · rintro ⟨c, a, b⟩
    refine ⟨fun j => ?_, fun j h1 h2 h3 => ?_⟩
    · by_cases e : j = p
      · rw [e]; exact Or.inl ⟨Nat.le_refl _, by omega, hg⟩
      · rcases a j with ⟨z1, z2, z3⟩ | z
        · exact Or.inl ⟨by omega, by omega, z3⟩
        · rw [sv_n e] at z; exact Or.inr z
    · rcases f j h1 h3 with y | y
      · rw [y]; exact c
      · exact b j y (by omega) h3
theorem Cm_ah {P p r : Nat} {sel : Nat → Bool} {v u : Nat → Nat} (c : Cm P sel r p v u) {j : Nat} (hj : j < p) : u j = v j := by
  rcases c.1 j with z | z
  · omega
  · exact z
theorem inc_ld {p : Nat} {v u : Nat → Nat} (hu : ∀ j, j < p → u j = v j) : inc σ gr p u = ld σ gr v p p (u p) := by
  unfold inc ld
  exact sumN_congr (fun j hj => by rw [hu j hj])
theorem GH.keep {h' : Hp} (gh : GH σ gr h) (a : h' 14 = h 14) (b : h' 15 = h 15) (c : h' 26 = h 26) : GH σ gr h' := by
  unfold GH
  rw [a, b, c]
  exact gh
def FR (p : Nat) (h h' : Hp) : Prop := (∀ k, k ≠ 22 → k ≠ 3 → h' k = h k) ∧ (∀ j, j ≠ 7 → h' 3 j = h 3 j) ∧ ∀ x, x < 45 * (p + 1) → h' 22 x = h 22 x
theorem FR.rfl' {p : Nat} : FR p h h := ⟨fun _ _ _ => rfl, fun _ _ => rfl, fun _ _ => rfl⟩
theorem LD.keep {p : Nat} {v : Nat → Nat} {h' : Hp} (l : LD σ gr v p h) (hk : ∀ x, x < 45 * (p + 1) → h' 22 x = h 22 x) (w : WF σ) : LD σ gr v p h' := fun q t a b c d e => by
  have := PP_le w
  rw [hk _ (by omega)]
  exact l q t a b c d e
theorem loadOf_eq {v : Nat → Nat} {p s : Nat} (w : WF σ) (hp : p < 5) (l : LD σ gr v p h) (hs : s < PP σ) (hf : ft σ p s = true) : fS_loadOf h (nI p) (nI s) = some (nI (ld σ gr v p p s), h) := by
  have := PP_le w
  unfold fS_loadOf
  have a1 : nI p * 45 + nI p * 9 + nI s = nI (45 * p + 9 * p + s) := by
    rw [show (45 : Int32) = nI 45 from rfl, show (9 : Int32) = nI 9 from rfl, n_mul, n_mul, nI_add, nI_add, Nat.mul_comm p 45, Nat.mul_comm p 9]
  rw [a1, rd_at (45 * p + 9 * p + s) 225 rfl rfl (by omega), l p s (Nat.le_refl _) hp rfl hs hf]
  rfl
theorem lower_K (w : WF σ) (G : GRP σ gr) : ∀ (d p c low : Nat) (v : Nat → Nat) (h : Hp) (Q : RO → Prop), 5 - p < d → p ≤ 5 → (p < 5 → inG σ gr g p = true ∧ LD σ gr v p h) → (p = 5 → c < low) → c ≤ 1000000 → low ≤ 1000000 → h 3 7 = nI low → GH σ gr h → h 3 3 = nI (PP σ) → (∀ q, q < 5 → h 16 q = nI (opM σ q)) → (∀ h' low', FR p h h' → h' 3 7 = nI low' → low' ≤ low → (∀ u, Cm (PP σ) (inG σ gr g) (5 - p) p v u → okt σ gr g (opM σ) (5 - p) p u = true → low' ≤ c + tc σ gr g (5 - p) p u) → (low' = low ∨ ∃ u, Cm (PP σ) (inG σ gr g) (5 - p) p v u ∧ okt σ gr g (opM σ) (5 - p) p u = true ∧ low' = c + tc σ gr g (5 - p) p u) → Q (some (0, h'))) → Q (fS_lower d (nI p) (nI c) h)
  | 0, p, c, low, v, h, Q => fun z => absurd z (Nat.not_lt_zero _)
  | d + 1, p, c, low, v, h, Q => by
    intro hd hp5 hpp hc5 hc hlow h37 gh g3 ho hK
    have hP := PP_le w
    rw [fS_lower]
    by_cases p5 : p < 5
    · obtain ⟨hg, l⟩ := hpp p5
      obtain ⟨f1, f2, f3, f4⟩ := fol_spec (gr := gr) p5
      have tp := (inG_iff.mp hg).1
      rw [if_pos ((n_lt (Y := 5) (b := 5) rfl rfl (by omega) (by omega)).mpr p5)]
      refine loopK (fun n (x : Int32 × Hp) => fS_lower_L13 (fS_lower d) (nI p) (nI c) n x.1 x.2) (fun s x => x.1 = nI s ∧ FR p h x.2 ∧ ∃ low', x.2 3 7 = nI low' ∧ low' ≤ low ∧ (∀ u, Cm (PP σ) (inG σ gr g) (5 - p) p v u → okt σ gr g (opM σ) (5 - p) p u = true → u p < s → low' ≤ c + tc σ gr g (5 - p) p u) ∧ (low' = low ∨ ∃ u, Cm (PP σ) (inG σ gr g) (5 - p) p v u ∧ okt σ gr g (opM σ) (5 - p) p u = true ∧ low' = c + tc σ gr g (5 - p) p u)) Q (PP σ) (by omega) ?_ ?_ 0 (0, h) (by omega) ⟨rfl, FR.rfl', low, h37, Nat.le_refl _, fun u _ _ z => absurd z (Nat.not_lt_zero _), Or.inl rfl⟩
      · rintro s ⟨x, h'⟩ n hs ⟨e1, fr, low', e2, e3, e4, e5⟩ hn
        dsimp only at e1 fr e2
        subst e1
        show Q (fS_lower_L13 (fS_lower d) (nI p) (nI c) (n + 1) (nI s) h')
        have l' : LD σ gr v p h' := l.keep fr.2.2 w
        rw [fS_lower_L13, fr.2.1 3 (by decide), g3, if_neg (fun z => by have := (nI_leI (by omega) (by omega)).mp z; omega), rd_at p 5 rfl rfl p5, fr.1 16 (by decide) (by decide), ho p p5, isIn_eq (by have := opM_lt w p; omega) (by omega), cal_some, jn_eq, if_b0, n_s1, opM_bit tp, decide_eq_true hs, Bool.true_and]
        -- what a way with this spot costs
        have cost : ∀ u, Cm (PP σ) (inG σ gr g) (5 - p) p v u → u p = s → tc σ gr g (5 - p) p u = ld σ gr v p p s + tc σ gr g (5 - fol gr p) (fol gr p) u := fun u cu hu => by
          rw [tc_st p5 hg, inc_ld (v := v) (fun j hj => Cm_ah cu hj), hu]
        cases hf : ft σ p s with
        | false =>
          rw [cond_false]
          refine hn (nI (s + 1), h') ⟨rfl, fr, low', e2, e3, fun u cu ku hu => ?_, e5⟩
          by_cases z : u p = s
          · exfalso
            have := ((okt_st p5 hg).mp ku).1
            rw [z, opM_bit tp, hf, Bool.and_false] at this
            exact absurd this (by decide)
          · exact e4 u cu ku (by omega)
        | true =>
          rw [cond_true, loadOf_eq w p5 l' hs hf, cal_some, e2, nI_add]
          have hld := ld_le (v := v) (t := s) w G (Nat.le_refl p) p5 tp
          by_cases q : low' ≤ c + ld σ gr v p p s
          · rw [if_pos ((nI_leI (by omega) (by omega)).mpr q)]
            refine hn (nI (s + 1), h') ⟨rfl, fr, low', e2, e3, fun u cu ku hu => ?_, e5⟩
            by_cases z : u p = s
            · rw [cost u cu z]
              omega
            · exact e4 u cu ku (by omega)
          · rw [if_neg (fun z => q ((nI_leI (by omega) (by omega)).mp z))]
            obtain ⟨h2, r1, r2, r3, r4⟩ := lay_eq w G (gh.keep (fr.1 14 (by decide) (by decide)) (fr.1 15 (by decide) (by decide)) (fr.1 26 (by decide) (by decide))) ((fr.2.1 3 (by decide)).trans g3) tp hs hf l'
            rw [r1, cal_some, rd_at p 5 rfl rfl p5, r2 15 (by decide), fr.1 15 (by decide) (by decide), (gh.1 p p5).2, loadOf_eq w p5 (l'.keep (fun x hx => r3 x (by omega)) w) hs hf, cal_some, nI_add]
            have k14 : ∀ k, k ≠ 22 → k ≠ 3 → h2 k = h k := fun k k1 k2 => (r2 k k1).trans (fr.1 k k1 k2)
            have k3 : h2 3 = h' 3 := r2 3 (by decide)
            refine lower_K w G d (fol gr p) (c + ld σ gr v p p s) low' (sv v p s) h2 (fun o => Q (cal o (fun _ h70 => (fun h73 => fS_lower_L13 (fS_lower d) (nI p) (nI c) n (nI (s + 1)) h73) h70))) (by omega) f2 (fun z => ⟨inG_iff.mpr ⟨?_, (f4 z).trans (inG_iff.mp hg).2⟩, r4⟩) (fun _ => by omega) (by omega) (by omega) (by rw [k3]; exact e2) (gh.keep (k14 14 (by decide) (by decide)) (k14 15 (by decide) (by decide)) (k14 26 (by decide) (by decide))) (by rw [k3]; exact (fr.2.1 3 (by decide)).trans g3) (fun q' hq => by rw [k14 16 (by decide) (by decide)]; exact ho q' hq) (fun h3 low2 s1 s2 s3 s4 s5 => ?_)
            · exact G.2.1 (fol gr p) p z p5 (f4 z) (by omega)
            · rw [cal_some]
              refine hn (nI (s + 1), h3) ⟨rfl, ⟨fun k k1 k2 => (s1.1 k k1 k2).trans (k14 k k1 k2), fun j hj => ?_, fun x hx => ?_⟩, low2, s2, by omega, fun u cu ku hu => ?_, ?_⟩
              · show h3 3 j = _
                rw [s1.2.1 j hj, k3]
                exact fr.2.1 j hj
              · show h3 22 x = _
                rw [s1.2.2 x (by omega), r3 x (by omega)]
                exact fr.2.2 x hx
              · by_cases z : u p = s
                · have c1 := (Cm_st p5 hg).mp cu
                  have k1 := (okt_st p5 hg).mp ku
                  rw [z] at c1
                  rw [cost u cu z]
                  have := s4 u c1.2 k1.2
                  omega
                · have := e4 u cu ku (by omega)
                  omega
              · rcases s5 with y | ⟨u, y1, y2, y3⟩
                · rw [y]; exact e5
                · right
                  have up : u p = s := by
                    rw [Cm_ah y1 f1, sv_s]
                  have cu : Cm (PP σ) (inG σ gr g) (5 - p) p v u := (Cm_st p5 hg).mpr ⟨by omega, by rw [up]; exact y1⟩
                  refine ⟨u, cu, (okt_st p5 hg).mpr ⟨by rw [up, opM_bit tp, hf, decide_eq_true hs]; rfl, y2⟩, ?_⟩
                  rw [cost u cu up]
                  omega
      · rintro ⟨x, h'⟩ n ⟨e1, fr, low', e2, e3, e4, e5⟩
        dsimp only at e1 fr e2
        subst e1
        show Q (fS_lower_L13 (fS_lower d) (nI p) (nI c) (n + 1) (nI (PP σ)) h')
        rw [fS_lower_L13, fr.2.1 3 (by decide), g3, if_pos (Int32.le_refl _)]
        exact hK h' low' fr e2 e3 (fun u cu ku => e4 u cu ku ((Cm_st p5 hg).mp cu).1) e5
    · have e : p = 5 := by omega
      subst e
      rw [if_neg (fun z => by have := (n_lt (Y := 5) (b := 5) rfl rfl (by omega) (by omega)).mp z; omega), pt_eq]
      have := hc5 rfl
      refine hK (up h 3 7 (nI c)) c ⟨fun k k1 k2 => up_ne h k2 _ _, fun j hj => by rw [up_k, upd_ne hj], fun x _ => by rw [up_ne h (by decide)]⟩ (by rw [up_k, upd_same]) (by omega) (fun u _ _ => by omega) (Or.inr ⟨v, Cm_0.mpr rfl, rfl, rfl⟩)
end Lower
