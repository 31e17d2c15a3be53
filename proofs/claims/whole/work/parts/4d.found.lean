/-! HOW MANY WAYS GO ON FROM WHAT IS BOUND -/
section Found
variable {σ : Sg} {gr : Nat → Nat} {h : Hp}
theorem sumN_one {f : Nat → Nat} {P a : Nat} (ha : a < P) (hz : ∀ s, s < P → s ≠ a → f s = 0) : sumN f P = f a := by
  rw [sumN_cut (m := a + 1) (by omega) (fun i h1 h2 => hz i h2 (by omega))]
  show sumN f a + f a = f a
  have : ∀ i, i < a → f i = (fun _ => 0) i := fun i hi => hz i (by omega) (by omega)
  rw [sumN_congr this, sumN_zero, Nat.zero_add]
theorem sv_self {v : Nat → Nat} {i : Nat} : sv v i (v i) = v := by
  funext j
  by_cases e : j = i
  · rw [e, sv_s]
  · rw [sv_n e]
theorem SI_force {P : Nat} {sel : Nat → Bool} {v : Nat → Nat} {F : (Nat → Nat) → Nat} : ∀ m i r, (∀ j, i ≤ j → j < i + m → sel j = true → v j < P) → (∀ u : Nat → Nat, (∃ j, i ≤ j ∧ j < i + m ∧ sel j = true ∧ u j ≠ v j) → F u = 0) → SI P sel (m + r) i v F = SI P sel r (i + m) v F
  | 0, i, r, _, _ => by rw [Nat.zero_add, Nat.add_zero]
  | m + 1, i, r, hv, hF => by
    have ih := SI_force (P := P) (sel := sel) (v := v) (F := F) m (i + 1) r (fun j h1 h2 => hv j (by omega) (by omega)) (fun u ⟨j, j1, j2, j3⟩ => hF u ⟨j, by omega, by omega, j3⟩)
    rw [show m + 1 + r = (m + r) + 1 by omega, show i + (m + 1) = i + 1 + m by omega, ← ih]
    cases q : sel i with
    | false => rw [SI_f q]
    | true =>
      rw [SI_t q, sumN_one (hv i (Nat.le_refl _) (by omega) q) (fun s _ hne => ?_), sv_self]
      apply Classical.byContradiction
      intro z
      obtain ⟨u, cu, hu⟩ := SI_pos.mp (Nat.pos_of_ne_zero z)
      have e : u i = s := by rw [Cm_ah cu (by omega), sv_s]
      rw [hF u ⟨i, Nat.le_refl _, by omega, q, by omega⟩] at hu
      omega
theorem prN_split {f : Nat → Nat} {g0 : Nat} : ∀ {n}, g0 < n → prN f n = f g0 * prN (fun g => if g = g0 then 1 else f g) n
  | n + 1, hg => by
    show prN f n * f n = f g0 * (prN (fun g => if g = g0 then 1 else f g) n * (if n = g0 then 1 else f n))
    by_cases e : n = g0
    · rw [if_pos e, Nat.mul_one, e]
      have : prN f g0 = prN (fun g => if g = g0 then 1 else f g) g0 := prN_congr (fun i hi => by rw [if_neg (by omega)])
      rw [this, Nat.mul_comm]
    · rw [if_neg e, prN_split (f := f) (g0 := g0) (n := n) (by omega), Nat.mul_assoc]
/-- the best ways of group g that go on from v at p -/
noncomputable def Tg (σ : Sg) (gr : Nat → Nat) (p : Nat) (v : Nat → Nat) (g : Nat) : Nat := SI (PP σ) (inG σ gr g) (5 - p) p v (ind σ gr (Lm σ gr) g)
noncomputable def Fa (σ : Sg) (gr : Nat → Nat) (u : Nat → Nat) : Nat := prN (fun g => ind σ gr (Lm σ gr) g u) 5
theorem ind_le {Lg : Nat → Nat} {g : Nat} {u : Nat → Nat} : ind σ gr Lg g u ≤ 1 := by
  unfold ind
  split
  · split <;> omega
  · omega
theorem Tg_non (w : WF σ) (G : GRP σ gr) {p g : Nat} {v : Nat → Nat} (hp : p ≤ 5) (hl : lead σ gr g = false) : Tg σ gr p v g = 1 := by
  unfold Tg
  have e := SI_skip (P := PP σ) (sel := inG σ gr g) (v := v) (F := ind σ gr (Lm σ gr) g) (5 - p) p 0 (fun j _ _ => by
    cases q : inG σ gr g j with
    | false => rfl
    | true => rw [lead_of w G q] at hl; exact absurd hl (by decide))
  rw [Nat.add_zero] at e
  rw [e]
  show ind σ gr (Lm σ gr) g v = 1
  unfold ind
  rw [hl]
  rfl
theorem Tg_skip {p g : Nat} {v : Nat → Nat} (hp : p < 5) (hn : tkp σ p = false) : Tg σ gr (p + 1) v g = Tg σ gr p v g := by
  unfold Tg
  rw [show 5 - p = (5 - (p + 1)) + 1 by omega, SI_f (show inG σ gr g p = false by unfold inG; rw [hn]; rfl)]
theorem Tg_other {p g s : Nat} {v : Nat → Nat} (hp : p < 5) (hg : g ≠ gr p) : Tg σ gr (p + 1) (sv v p s) g = Tg σ gr p v g := by
  unfold Tg
  rw [show 5 - p = (5 - (p + 1)) + 1 by omega, SI_f (show inG σ gr g p = false by
    cases q : inG σ gr g p with
    | false => rfl
    | true => exact absurd (inG_iff.mp q).2 (fun z => hg z.symm))]
  exact SI_congr (fun j => gr j = g) (fun u u' hu => ind_congr g u u' hu) _ _ _ _ (fun j hj => sv_n (fun z => hg (by rw [← hj, z])))
theorem NA_eq (w : WF σ) (G : GRP σ gr) {p : Nat} {v : Nat → Nat} (hp : p ≤ 5) : SI (PP σ) (tkp σ) (5 - p) p v (Fa σ gr) = prN (Tg σ gr p v) 5 := cnt_grp w G (5 - p) p v (by omega)
/-- the others' ways -/
noncomputable def Ot (σ : Sg) (gr : Nat → Nat) (p : Nat) (v : Nat → Nat) (g0 : Nat) : Nat := prN (fun g => if g = g0 then 1 else Tg σ gr p v g) 5
theorem NA_st (w : WF σ) (G : GRP σ gr) {p s : Nat} {v : Nat → Nat} (hp : p < 5) : SI (PP σ) (tkp σ) (5 - (p + 1)) (p + 1) (sv v p s) (Fa σ gr) = Tg σ gr (p + 1) (sv v p s) (gr p) * Ot σ gr p v (gr p) := by
  have := (G.1 p hp).1
  rw [NA_eq w G (by omega), prN_split (g0 := gr p) (by omega)]
  congr 1
  refine prN_congr (fun g _ => ?_)
  by_cases e : g = gr p
  · rw [if_pos e, if_pos e]
  · rw [if_neg e, if_neg e, Tg_other hp e]
theorem Cm_inP (w : WF σ) {g r i : Nat} {v u : Nat → Nat} (hv : ∀ j, tkp σ j = true → v j < PP σ) (cu : Cm (PP σ) (inG σ gr g) r i v u) : inP σ u := fun j hj => by
  rcases cu.1 j with z | z
  · exact cu.2 j z.1 z.2.1 z.2.2
  · rw [z]; exact hv j hj
theorem found_K {Q : RO → Prop} {b v : Nat → Nat} {g p : Nat} (w : WF σ) (G : GRP σ gr) (gh : GH σ gr h) (g3 : h 3 3 = nI (PP σ)) (bs : BS b h) (bf : BF σ b) (bb : ∀ q t, (b q).testBit t = true ↔ (gr q < 5 ∧ tkp σ q = true ∧ ∃ u, WQ σ gr (gr q) (opM σ) (Lm σ gr (gr q)) (gr q) v0 u ∧ u q = t)) (hL : ∀ g, lead σ gr g = true → Lst σ gr g (Lm σ gr g)) (zr : ∀ y, y < 45 → h 22 (45 * g + y) = 0) (hp : inG σ gr g p = true) (hv : ∀ j, tkp σ j = true → v j < PP σ) (hf : ∀ j, j ≤ p → tkp σ j = true → ft σ j (v j) = true) (h16 : ∀ q, q < 5 → h 16 q = nI (if decide (q < p + 1) && tkp σ q then 2 ^ v q else b q)) (hK : ∀ h', FWy σ gr g g h h' → BS b h' → Q (some (nI (Tg σ gr (p + 1) v g), h'))) : Q (fS_ways 7 (nI g) (nI (Lm σ gr g)) h) := by
  have hP := PP_le w
  have hl := lead_of w G hp
  obtain ⟨gp, p5⟩ := inG_b w G hp
  have g5 := tkp5 w (lead_iff.mp hl).1
  have LM : Lm σ gr g ≤ 7200 := by
    obtain ⟨u, u1, u2, u3⟩ := (hL g hl).2
    rw [← u3]
    exact gc_le w G u
  have os : OS σ (fun q => if decide (q < p + 1) && tkp σ q then 2 ^ v q else b q) h := fun q hq => by
    refine ⟨h16 q hq, ?_, fun t ht => ?_⟩
    · dsimp only
      by_cases c : (decide (q < p + 1) && tkp σ q) = true
      · rw [if_pos c]
        rw [Bool.and_eq_true] at c
        exact (show 2 ^ v q < 2 ^ 9 from Nat.pow_lt_pow_right (by decide) (by have := hv q c.2; omega))
      · rw [if_neg c]
        exact (bs q hq).2
    · dsimp only at ht
      by_cases c : (decide (q < p + 1) && tkp σ q) = true
      · rw [if_pos c, Nat.testBit_two_pow, decide_eq_true_eq] at ht
        rw [Bool.and_eq_true, decide_eq_true_eq] at c
        rw [← ht]
        exact ⟨hv q c.2, hf q (by omega) c.2⟩
      · rw [if_neg c] at ht
        exact bf q t ht
  have ok1 : ∀ u : Nat → Nat, okt σ gr g (fun q => if decide (q < p + 1) && tkp σ q then 2 ^ v q else b q) (5 - g) g u = true → okg σ gr g u = true := fun u ku => (okg_iff w).mpr (fun i hi => by
    have bi := inG_b w G hi
    exact ((os i bi.2).2.2 (u i) ((okt_iff _ _).mp ku i bi.1 (by omega) hi)).2)
  have isb : ∀ u : Nat → Nat, inP σ u → okt σ gr g (fun q => if decide (q < p + 1) && tkp σ q then 2 ^ v q else b q) (5 - g) g u = true → tc σ gr g (5 - g) g u = Lm σ gr g → bst σ gr (Lm σ gr) g u := fun u pu ku tu => ⟨pu, ok1 u ku, by rw [gc_tc w G g5]; exact tu⟩
  have bit : ∀ u : Nat → Nat, bst σ gr (Lm σ gr) g u → ∀ q, inG σ gr g q = true → (b q).testBit (u q) = true := fun u bu q hq => by
    obtain ⟨tq, gq⟩ := inG_iff.mp hq
    refine (bb q (u q)).mpr ⟨by omega, tq, rs σ gr g u, ?_, rs_in hq⟩
    rw [gq]
    exact bst_WQ w G g5 bu
  refine ways_K (g := g) (o := fun q => if decide (q < p + 1) && tkp σ q then 2 ^ v q else b q) w G 7 g (Lm σ gr g) v b h Q (by omega) (inG_iff.mpr (lead_iff.mp hl)) (fun q t c1 c2 c3 c4 c5 => ?_) gh g3 os bs (by omega) (fun u cu ku => ?_) (fun h' b' f1 f2 f3 => ?_)
  · rw [show 45 * g + 9 * q + t = 45 * g + (9 * q + t) by omega, zr _ (by omega)]
    have : ld σ gr v g q t = 0 := by
      unfold ld
      have z : ∀ j, j < g → (if gr j == gr q then cl σ j (v j) q t else 0) = (fun _ => 0) j := fun j hj => by
        rw [if_neg]
        intro y
        have := (G.1 j (by omega)).1
        have := (lead_iff.mp hl).2
        have := beq_iff_eq.mp y
        omega
      rw [sumN_congr z, sumN_zero]
    rw [this]
    rfl
  · rw [← gc_tc w G g5]
    exact (hL g hl).1 u (Cm_inP w hv cu) (ok1 u ku)
  · have eb : b' = b := funext (fun q => Nat.eq_of_testBit_eq (fun t => by
      rw [Bool.eq_iff_iff, f3 q t]
      constructor
      · rintro (z | ⟨z1, z2, z3, u, z4, z5⟩)
        · exact z
        · rw [← z5]
          exact bit u (isb u (Cm_inP w hv z4.1) z4.2.1 z4.2.2) q z3
      · exact Or.inl))
    subst eb
    have e : wS σ gr g (fun q => if decide (q < p + 1) && tkp σ q then 2 ^ v q else b' q) (Lm σ gr g) g v = Tg σ gr (p + 1) v g := by
      have c2 : ∀ u : Nat → Nat, (∃ j, g ≤ j ∧ j < g + (p + 1 - g) ∧ inG σ gr g j = true ∧ u j ≠ v j) → wF σ gr g (fun q => if decide (q < p + 1) && tkp σ q then 2 ^ v q else b' q) (Lm σ gr g) g u = 0 := by
        rintro u ⟨j, j1, j2, j3, j4⟩
        apply Classical.byContradiction
        intro y
        have ku := (wF_pos.mp (Nat.pos_of_ne_zero y)).1
        have := (okt_iff _ _).mp ku j j1 (by omega) j3
        rw [if_pos (by rw [Bool.and_eq_true, decide_eq_true_eq]; exact ⟨by omega, (inG_iff.mp j3).1⟩), Nat.testBit_two_pow, decide_eq_true_eq] at this
        exact j4 this.symm
      unfold wS Tg
      rw [show 5 - g = (p + 1 - g) + (5 - (p + 1)) by omega, SI_force (p + 1 - g) g (5 - (p + 1)) (fun j _ _ hj => hv j (inG_iff.mp hj).1) c2, show g + (p + 1 - g) = p + 1 by omega]
      · refine SI_extC (fun u cu => ?_)
        have pu := Cm_inP w hv cu
        have iff : 0 < wF σ gr g (fun q => if decide (q < p + 1) && tkp σ q then 2 ^ v q else b' q) (Lm σ gr g) g u ↔ bst σ gr (Lm σ gr) g u := by
          rw [wF_pos]
          constructor
          · rintro ⟨z1, z2⟩
            exact isb u pu z1 z2
          · intro z
            refine ⟨(okt_iff _ _).mpr (fun j j1 j2 hj => ?_), by rw [← gc_tc w G g5]; exact z.2.2⟩
            by_cases c : (decide (j < p + 1) && tkp σ j) = true
            · rw [if_pos c, Nat.testBit_two_pow, decide_eq_true_eq]
              rw [Bool.and_eq_true, decide_eq_true_eq] at c
              exact (Cm_ah cu c.1).symm
            · rw [if_neg c]
              exact bit u z j hj
        have b1 := wF_le (σ := σ) (gr := gr) (g := g) (o := fun q => if decide (q < p + 1) && tkp σ q then 2 ^ v q else b' q) (u := u) (left := Lm σ gr g) (p := g)
        unfold ind
        rw [if_pos hl]
        by_cases z : (okg σ gr g u && gc σ gr g u == Lm σ gr g) = true
        · rw [if_pos z]
          rw [Bool.and_eq_true, beq_iff_eq] at z
          have := iff.mpr ⟨pu, z.1, z.2⟩
          omega
        · rw [if_neg z]
          apply Classical.byContradiction
          intro y
          have := iff.mp (Nat.pos_of_ne_zero y)
          exact z (by rw [Bool.and_eq_true, beq_iff_eq]; exact ⟨this.2.1, this.2.2⟩)
    rw [e]
    exact hK h' f1 f2
end Found
